section
/-! rows pasted from kit/rows -/
def bt (x : Int32) (i : Nat) : Bool := x.toBitVec.getLsbD i
theorem b_ext {x y : Int32} (h : ∀ i, i < 32 → bt x i = bt y i) : x = y := Int32.toBitVec_inj.mp (BitVec.eq_of_getLsbD_eq (fun i hi => h i hi))
theorem b_or (x y : Int32) (i : Nat) : bt (x ||| y) i = (bt x i || bt y i) := by unfold bt; rw [Int32.toBitVec_or, BitVec.getLsbD_or]
theorem b_and (x y : Int32) (i : Nat) : bt (x &&& y) i = (bt x i && bt y i) := by unfold bt; rw [Int32.toBitVec_and, BitVec.getLsbD_and]
theorem b_xor (x y : Int32) (i : Nat) : bt (x ^^^ y) i = (bt x i ^^ bt y i) := by unfold bt; rw [Int32.toBitVec_xor, BitVec.getLsbD_xor]
theorem b_big {x : Int32} {i : Nat} (h : 32 ≤ i) : bt x i = false := BitVec.getLsbD_of_ge _ _ h
theorem b_255 (i : Nat) : bt 255 i = decide (i < 8) := by
  rcases Nat.lt_or_ge i 32 with h | h
  · exact (by decide +kernel : ∀ i, i < 32 → bt 255 i = decide (i < 8)) i h
  · rw [b_big h, decide_eq_false (by omega)]
theorem b_65535 (i : Nat) : bt 65535 i = decide (i < 16) := by
  rcases Nat.lt_or_ge i 32 with h | h
  · exact (by decide +kernel : ∀ i, i < 32 → bt 65535 i = decide (i < 16)) i h
  · rw [b_big h, decide_eq_false (by omega)]
theorem b_m1 : ∀ i, i < 32 → bt (-1) i = true := by decide +kernel
theorem b_0 (i : Nat) : bt 0 i = false := BitVec.getLsbD_zero
theorem s_l : ∀ n, n < 32 → ((nI n &&& 31).toBitVec.smod 32).toNat = n := by decide +kernel
theorem s_u : ∀ n, n < 32 → (((nI n).toUInt32 &&& Int32.toUInt32 31).toBitVec % 32).toNat = n := by decide +kernel
theorem b_shl (n : Nat) (hn : n < 32) (x : Int32) {i : Nat} (hi : i < 32) : bt (x <<< (nI n &&& 31)) i = (decide (n ≤ i) && bt x (i - n)) := by
  unfold bt
  rw [Int32.toBitVec_shiftLeft]
  show (x.toBitVec <<< ((nI n &&& 31).toBitVec.smod 32).toNat).getLsbD i = _
  rw [s_l n hn, BitVec.getLsbD_shiftLeft]
  rcases Nat.lt_or_ge i n with h | h
  · simp [h, Nat.not_le.mpr h]
  · simp [hi, h, Nat.not_lt.mpr h]
theorem b_ushr (n : Nat) (hn : n < 32) (x : Int32) (i : Nat) : bt ((x.toUInt32 >>> ((nI n).toUInt32 &&& Int32.toUInt32 31)).toInt32) i = bt x (n + i) := by
  show (x.toUInt32 >>> ((nI n).toUInt32 &&& Int32.toUInt32 31)).toBitVec.getLsbD i = x.toUInt32.toBitVec.getLsbD (n + i)
  rw [UInt32.toBitVec_shiftRight]
  show (x.toUInt32.toBitVec >>> (((nI n).toUInt32 &&& Int32.toUInt32 31).toBitVec % 32).toNat).getLsbD i = _
  rw [s_u n hn, BitVec.getLsbD_ushiftRight]
theorem b_sshr (n : Nat) (hn : n < 32) (x : Int32) {i : Nat} (hi : i < 32) : bt (x >>> (nI n &&& 31)) i = if n + i < 32 then bt x (n + i) else bt x 31 := by
  unfold bt
  rw [Int32.toBitVec_shiftRight]
  show (x.toBitVec.sshiftRight ((nI n &&& 31).toBitVec.smod 32).toNat).getLsbD i = _
  rw [s_l n hn, BitVec.getLsbD_sshiftRight, BitVec.msb_eq_getLsbD_last]
  simp [hi]
theorem pk_us {f : Nat → Int32} {k : Nat} {x : Int32} : upd f k x k = x := if_pos rfl
theorem pk_un {f : Nat → Int32} {k j : Nat} {x : Int32} (h : j ≠ k) : upd f k x j = f j := if_neg h
theorem pk_sub {a b : Nat} (h : b ≤ a) : nI a - nI b = nI (a - b) := by
  obtain ⟨c, rfl⟩ : ∃ c, a = c + b := ⟨a - b, by omega⟩
  rw [← nI_add, Int32.add_sub_cancel, Nat.add_sub_cancel]
theorem pk_m1 (n : Nat) : nI (n + 1) + (-1) = nI n := by
  rw [← nI_1, Int32.add_assoc, show (1 : Int32) + (-1) = 0 from rfl, Int32.add_zero]
theorem pk_mul (a b : Nat) : nI a * nI b = nI (a * b) := (Int32.ofNat_mul a b).symm
theorem pk_div {a d : Nat} (ha : a < 2 ^ 31) (h0 : 0 < d) (hd : d < 2 ^ 31) : nI a / nI d = nI (a / d) := by
  apply Int32.toInt_inj.mp
  rw [lg_idiv_nonneg (by rw [nI_toInt ha]; omega) (by rw [nI_toInt hd]; omega), nI_toInt ha, nI_toInt hd, nI_toInt (Nat.lt_of_le_of_lt (Nat.div_le_self a d) ha)]
  first | rfl | exact (Int.natCast_ediv _ _).symm
theorem pk_rem {a d : Nat} (ha : a < 2 ^ 31) (h0 : 0 < d) (hd : d < 2 ^ 31) : nI a - nI a / nI d * nI d = nI (a % d) := by
  rw [pk_div ha h0 hd, pk_mul, pk_sub (Nat.div_mul_le_self a d)]
  exact congrArg nI (by have := Nat.div_add_mod' a d; omega)
theorem pk_ix (x : Int32) {n : Nat} (hn : n < 2 ^ 31) : x < 0 ∨ nI n ≤ x ∨ ∃ j : Nat, j < n ∧ x = nI j := by
  by_cases h : x < 0
  · exact Or.inl h
  · obtain ⟨j, hj, rfl⟩ := nI_of h
    by_cases h2 : j < n
    · exact Or.inr (Or.inr ⟨j, h2, rfl⟩)
    · exact Or.inr (Or.inl (nI_le (by omega) hj))
theorem pk_le {x y : Int32} {A B : Prop} (a b : Nat) (f : a ≤ b → A) (g : b < a → B) (hx : x = nI a := by rfl) (hy : y = nI b := by rfl) (ha : a < 2 ^ 31 := by omega) (hb : b < 2 ^ 31 := by omega) : (x ≤ y → A) ∧ (¬ x ≤ y → B) := by
  subst hx hy
  rw [nI_leI ha hb]
  exact ⟨f, fun z => g (by omega)⟩
theorem pk_lt {x y : Int32} {A B : Prop} (a b : Nat) (f : a < b → A) (g : b ≤ a → B) (hx : x = nI a := by rfl) (hy : y = nI b := by rfl) (ha : a < 2 ^ 31 := by omega) (hb : b < 2 ^ 31 := by omega) : (x < y → A) ∧ (¬ x < y → B) := by
  subst hx hy
  rw [nI_ltI ha hb]
  exact ⟨f, fun z => g (by omega)⟩
theorem pk_eq {x y : Int32} {A B : Prop} (a b : Nat) (f : a = b → A) (g : a ≠ b → B) (hx : x = nI a := by rfl) (hy : y = nI b := by rfl) (ha : a < 2 ^ 31 := by omega) (hb : b < 2 ^ 31 := by omega) : (x = y → A) ∧ (¬ x = y → B) := by
  subst hx hy
  rw [nI_eq ha hb]
  exact ⟨f, g⟩
theorem pk_in {x : Int32} (n N : Nat) (h : n < N) (hx : x = nI n := by rfl) (hN : N < 2 ^ 31 := by omega) : vp_in x N := by
  subst hx
  exact vp_in_nI h hN
theorem pk_cl {x : Int32} (n : Nat) (hx : x = nI n := by rfl) (h : n < 2 ^ 31 := by omega) : x.toNatClampNeg = n := by
  subst hx
  exact nI_clamp h
theorem pk_loop {σ : Type} (W : Nat → Nat → σ → Prop) (I : Nat → σ → Prop) (e i0 : Nat) (s : σ) (hi : i0 ≤ e) (h0 : I i0 s) (hx : ∀ n s, I e s → W (n + 1) e s)
    (hs : ∀ n i s, i < e → I i s → (∀ s', I (i + 1) s' → W n (i + 1) s') → W (n + 1) i s) : ∃ n, W n i0 s :=
  ⟨e + 1, loop_i W I e hx hs (e + 1) i0 s hi (by omega) h0⟩
theorem pk_least (P : Nat → Prop) (h : ∃ k, P k) : ∃ k, P k ∧ ∀ j, j < k → ¬ P j := by
  obtain ⟨k, hk⟩ := h
  induction k using Nat.strongRecOn with
  | ind k ih =>
    by_cases e : ∃ j, j < k ∧ P j
    · obtain ⟨j, hj, pj⟩ := e
      exact ih j hj pj
    · exact ⟨k, hk, fun j hj pj => e ⟨j, hj, pj⟩⟩
theorem ek_if {c d A B : Prop} (e : c ↔ d) (f : d → A) (g : ¬ d → B) : (c → A) ∧ (¬ c → B) :=
  ⟨fun z => f (e.mp z), fun z => g (fun y => z (e.mpr y))⟩
end
section
/-! numbers, options, bits, counting, scans -/
def fu_v (o : Option Nat) : Int32 := match o with
  | none => -4
  | some k => nI k
theorem fu_m4 : (-4 : Int32).toInt = -4 := by decide
theorem fu_ne {k : Nat} (h : k < 2 ^ 31) : ¬ nI k = -4 := by
  intro e
  have h1 := nI_toInt h
  rw [e, fu_m4] at h1
  omega
theorem fu_vi {o : Option Nat} (h : ∀ k, o = some k → k < 2 ^ 31) : fu_v o = -4 ↔ o = none := by
  cases o with
  | none => exact ⟨fun _ => rfl, fun _ => rfl⟩
  | some k => exact ⟨fun e => absurd e (fu_ne (h k rfl)), fun e => nomatch e⟩
theorem fu_vj {o q : Option Nat} (ho : ∀ k, o = some k → k < 2 ^ 31) (hq : ∀ k, q = some k → k < 2 ^ 31) : fu_v o = fu_v q ↔ o = q := by
  refine ⟨fun e => ?_, fun e => by rw [e]⟩
  cases o with
  | none =>
    cases q with
    | none => rfl
    | some k => exact absurd e.symm (fu_ne (hq k rfl))
  | some j =>
    cases q with
    | none => exact absurd e (fu_ne (ho j rfl))
    | some k => exact congrArg some ((nI_eq (ho j rfl) (hq k rfl)).mp e)
def fu_b : Bool → Int32
  | true => 1
  | false => 0
theorem fu_b0 {b : Bool} : fu_b b = 0 ↔ b = false := by cases b <;> decide
theorem fu_b1 {b : Bool} : fu_b b = 1 ↔ b = true := by cases b <;> decide
theorem b_1 (i : Nat) : bt 1 i = decide (i = 0) := by
  rcases Nat.lt_or_ge i 32 with h | h
  · exact (by decide +kernel : ∀ i, i < 32 → bt 1 i = decide (i = 0)) i h
  · rw [b_big h, decide_eq_false (by omega)]
theorem fu_bit (x : Int32) {i : Nat} (hi : i < 32) : (x >>> (nI i &&& 31)) &&& 1 = fu_b (bt x i) := by
  apply b_ext
  intro j hj
  rw [b_and, b_1, b_sshr i hi x hj]
  by_cases z : j = 0
  · subst z
    cases hb : bt x i with
    | true =>
      show _ = bt 1 0
      simp [hi, hb, b_1]
    | false =>
      show _ = bt 0 0
      simp [hi, hb, b_0]
  · cases hb : bt x i with
    | true =>
      show _ = bt 1 j
      simp [z, b_1]
    | false =>
      show _ = bt 0 j
      simp [z, b_0]
theorem fu_one {n i : Nat} (hn : n < 32) (hi : i < 32) : bt ((1 : Int32) <<< (nI n &&& 31)) i = decide (i = n) := by
  rw [b_shl n hn 1 hi, b_1]
  by_cases z : i = n
  · subst z
    simp
  · by_cases y : n ≤ i
    · have h : ¬ i - n = 0 := by omega
      simp [h, z]
    · simp [y, z]
theorem fu_nz {x : Int32} : x = 0 ↔ ∀ i, bt x i = false := by
  refine ⟨fun h i => by rw [h, b_0], fun h => b_ext fun i _ => by rw [h i, b_0]⟩
theorem fu_nz2 {x : Int32} (h : x ≠ 0) : ∃ i, bt x i = true := by
  refine Classical.byContradiction fun z => h (fu_nz.mpr fun i => ?_)
  cases hb : bt x i with
  | true => exact absurd ⟨i, hb⟩ z
  | false => rfl
theorem fu_lt {x : Int32} {i : Nat} (h : bt x i = true) : i < 32 := by
  rcases Nat.lt_or_ge i 32 with z | z
  · exact z
  · rw [b_big z] at h
    exact absurd h (by decide)
/-! counting -/
def fu_cd (P : Nat → Bool) : Nat → Nat
  | 0 => 0
  | n + 1 => fu_cd P n + (if P n = true then 1 else 0)
theorem fu_cd_t {P : Nat → Bool} {n : Nat} (h : P n = true) : fu_cd P (n + 1) = fu_cd P n + 1 := by
  show _ + _ = _
  rw [if_pos h]
theorem fu_cd_f {P : Nat → Bool} {n : Nat} (h : P n = false) : fu_cd P (n + 1) = fu_cd P n := by
  show _ + _ = _
  rw [if_neg (by rw [h]; decide)]
  rfl
theorem fu_cd_le (P : Nat → Bool) : ∀ n, fu_cd P n ≤ n := by
  intro n
  induction n with
  | zero => exact Nat.le_refl 0
  | succ n ih =>
    cases h : P n with
    | true => rw [fu_cd_t h]; omega
    | false => rw [fu_cd_f h]; omega
theorem fu_cd_mono {P Q : Nat → Bool} : ∀ n, (∀ i, i < n → P i = true → Q i = true) → fu_cd P n ≤ fu_cd Q n := by
  intro n
  induction n with
  | zero => exact fun _ => Nat.le_refl 0
  | succ n ih =>
    intro h
    have h1 := ih (fun i hi => h i (by omega))
    have h2 := h n (by omega)
    cases hp : P n with
    | true => rw [fu_cd_t hp, fu_cd_t (h2 hp)]; omega
    | false =>
      rw [fu_cd_f hp]
      cases hq : Q n with
      | true => rw [fu_cd_t hq]; omega
      | false => rw [fu_cd_f hq]; exact h1
theorem fu_cd_lt {P Q : Nat → Bool} : ∀ n, (∀ i, i < n → P i = true → Q i = true) → ∀ j, j < n → P j = false → Q j = true → fu_cd P n < fu_cd Q n := by
  intro n
  induction n with
  | zero => intro _ j hj; omega
  | succ n ih =>
    intro h j hj hp hq
    by_cases z : j = n
    · subst z
      rw [fu_cd_f hp, fu_cd_t hq]
      have := fu_cd_mono j (fun i hi => h i (by omega))
      omega
    · have h1 := ih (fun i hi => h i (by omega)) j (by omega) hp hq
      have h2 := h n (by omega)
      cases hp2 : P n with
      | true => rw [fu_cd_t hp2, fu_cd_t (h2 hp2)]; omega
      | false =>
        rw [fu_cd_f hp2]
        cases hq2 : Q n with
        | true => rw [fu_cd_t hq2]; omega
        | false => rw [fu_cd_f hq2]; exact h1
theorem fu_cd_cg {P Q : Nat → Bool} (n : Nat) (h : ∀ i, i < n → P i = Q i) : fu_cd P n = fu_cd Q n :=
  Nat.le_antisymm (fu_cd_mono n fun i hi hp => (h i hi).symm.trans hp) (fu_cd_mono n fun i hi hq => (h i hi).trans hq)
theorem fu_cd_1 {P : Nat → Bool} {n j : Nat} (hj : j < n) (h : P j = true) : 1 ≤ fu_cd P n := by
  have := fu_cd_lt (P := fun _ => false) (Q := P) n (fun i _ z => absurd z (by decide)) j hj rfl h
  omega
/-! the first place -/
def fu_sc (P : Nat → Bool) : Nat → Nat → Int32
  | 0, _ => -4
  | d + 1, i => if P i = true then nI i else fu_sc P d (i + 1)
theorem fu_sc_t {P : Nat → Bool} {d i : Nat} (h : P i = true) : fu_sc P (d + 1) i = nI i := if_pos h
theorem fu_sc_f {P : Nat → Bool} {d i : Nat} (h : P i = false) : fu_sc P (d + 1) i = fu_sc P d (i + 1) := if_neg (by rw [h]; decide)
theorem fu_sc_cg {P Q : Nat → Bool} : ∀ d i, (∀ j, i ≤ j → j < i + d → P j = Q j) → fu_sc P d i = fu_sc Q d i := by
  intro d
  induction d with
  | zero => exact fun _ _ => rfl
  | succ d ih =>
    intro i h
    have h1 := h i (by omega) (by omega)
    have h2 := ih (i + 1) (fun j a b => h j (by omega) (by omega))
    cases hp : P i with
    | true => rw [fu_sc_t hp, fu_sc_t (h1.symm.trans hp)]
    | false => rw [fu_sc_f hp, fu_sc_f (h1.symm.trans hp), h2]
theorem fu_sc_sp (P : Nat → Bool) : ∀ d i, (fu_sc P d i = -4 ∧ ∀ j, i ≤ j → j < i + d → P j = false) ∨ ∃ j, i ≤ j ∧ j < i + d ∧ fu_sc P d i = nI j ∧ P j = true := by
  intro d
  induction d with
  | zero => exact fun i => Or.inl ⟨rfl, fun j a b => by omega⟩
  | succ d ih =>
    intro i
    cases hp : P i with
    | true => exact Or.inr ⟨i, by omega, by omega, fu_sc_t hp, hp⟩
    | false =>
      rcases ih (i + 1) with ⟨e, h⟩ | ⟨j, a, b, e, h⟩
      · refine Or.inl ⟨(fu_sc_f hp).trans e, fun j a b => ?_⟩
        by_cases z : j = i
        · rw [z]; exact hp
        · exact h j (by omega) (by omega)
      · exact Or.inr ⟨j, by omega, by omega, (fu_sc_f hp).trans e, h⟩
end
section
/-! the hierarchy: lo t holds the types under t -/
def fu_Pre (lo : Nat → Int32) : Prop :=
  (∀ t i, t < 8 → bt (lo t) i = true → i < 8) ∧ (∀ t, t < 8 → bt (lo t) t = true) ∧
  (∀ a b c, a < 8 → b < 8 → c < 8 → bt (lo b) a = true → bt (lo c) b = true → bt (lo c) a = true)
def fu_Ant (lo : Nat → Int32) : Prop := ∀ a b, a < 8 → b < 8 → bt (lo b) a = true → bt (lo a) b = true → a = b
def fu_Mee (lo : Nat → Int32) : Prop := ∀ a b, a < 8 → b < 8 → (∃ i, bt (lo a) i = true ∧ bt (lo b) i = true) → ∃ t, t < 8 ∧ lo t = lo a &&& lo b
def fu_Fit (lo : Nat → Int32) : Prop := fu_Pre lo ∧ fu_Ant lo ∧ fu_Mee lo
def fu_mt (lo : Nat → Int32) (a b : Nat) : Int32 := fu_sc (fun t => decide (lo t = lo a &&& lo b)) 8 0
def fu_gr (lo : Nat → Int32) (s : Int32) : Int32 := fu_sc (fun t => bt s t && decide (lo t &&& s = s)) 8 0
theorem fu_andc (x y : Int32) : x &&& y = y &&& x := b_ext fun i _ => by rw [b_and, b_and, Bool.and_comm]
theorem fu_ands (x : Int32) : x &&& x = x := b_ext fun i _ => by rw [b_and, Bool.and_self]
theorem fu_gm {lo : Nat → Int32} (P : fu_Pre lo) {a b : Nat} (ha : a < 8) (hb : b < 8) : fu_gr lo (lo a &&& lo b) = fu_mt lo a b := by
  refine fu_sc_cg 8 0 fun t _ ht => ?_
  have ht : t < 8 := by omega
  show (bt (lo a &&& lo b) t && decide (lo t &&& (lo a &&& lo b) = lo a &&& lo b)) = decide (lo t = lo a &&& lo b)
  by_cases z : lo t = lo a &&& lo b
  · rw [decide_eq_true z, ← z, fu_ands, P.2.1 t ht, decide_eq_true rfl]
    rfl
  · rw [decide_eq_false z]
    refine Bool.eq_false_iff.mpr fun h => z ?_
    rw [Bool.and_eq_true, decide_eq_true_iff] at h
    obtain ⟨h1, h2⟩ := h
    rw [b_and, Bool.and_eq_true] at h1
    refine b_ext fun i hi => ?_
    cases hb2 : bt (lo t) i with
    | true =>
      have i8 := P.1 t i ht hb2
      rw [b_and, P.2.2 i t a i8 ht ha hb2 h1.1, P.2.2 i t b i8 ht hb hb2 h1.2]
      rfl
    | false =>
      rw [← h2, b_and, hb2]
      rfl
theorem fu_gs {lo : Nat → Int32} (P : fu_Pre lo) (A : fu_Ant lo) {a : Nat} (ha : a < 8) : fu_gr lo (lo a) = nI a := by
  rcases fu_sc_sp (fun t => bt (lo a) t && decide (lo t &&& lo a = lo a)) 8 0 with ⟨_, h⟩ | ⟨j, _, hj, e, h⟩
  · have h1 := h a (by omega) (by omega)
    have h2 : (bt (lo a) a && decide (lo a &&& lo a = lo a)) = true := by rw [P.2.1 a ha, fu_ands, decide_eq_true rfl]; rfl
    rw [show (bt (lo a) a && decide (lo a &&& lo a = lo a)) = false from h1] at h2
    exact absurd h2 (by decide)
  · have h : (bt (lo a) j && decide (lo j &&& lo a = lo a)) = true := h
    rw [Bool.and_eq_true, decide_eq_true_iff] at h
    have h3 : bt (lo j) a = true := by
      have h4 := P.2.1 a ha
      rw [← h.2, b_and, Bool.and_eq_true] at h4
      exact h4.1
    have e2 : j = a := A j a (by omega) ha h.1 h3
    rw [← e2] at e ⊢
    exact e
theorem fu_mts (lo : Nat → Int32) (a b : Nat) : fu_mt lo a b = fu_mt lo b a := by
  unfold fu_mt
  rw [fu_andc]
theorem fu_mt_sp (lo : Nat → Int32) (a b : Nat) : (fu_mt lo a b = -4 ∧ ∀ t, t < 8 → lo t ≠ lo a &&& lo b) ∨ ∃ t, t < 8 ∧ fu_mt lo a b = nI t ∧ lo t = lo a &&& lo b := by
  rcases fu_sc_sp (fun t => decide (lo t = lo a &&& lo b)) 8 0 with ⟨e, h⟩ | ⟨j, _, hj, e, h⟩
  · exact Or.inl ⟨e, fun t ht => of_decide_eq_false (h t (by omega) (by omega))⟩
  · exact Or.inr ⟨j, by omega, e, of_decide_eq_true h⟩
/-! a new order -/
def fu_nw (lo : Nat → Int32) (a b : Nat) : Nat → Int32 := fun t => if bt (lo t) b = true then lo t ||| lo a else lo t
theorem fu_nw_b (lo : Nat → Int32) (a b t i : Nat) : bt (fu_nw lo a b t) i = true ↔ bt (lo t) i = true ∨ (bt (lo t) b = true ∧ bt (lo a) i = true) := by
  unfold fu_nw
  by_cases z : bt (lo t) b = true
  · rw [if_pos z, b_or, Bool.or_eq_true]
    exact ⟨fun h => h.elim Or.inl (fun y => Or.inr ⟨z, y⟩), fun h => h.elim Or.inl (fun y => Or.inr y.2)⟩
  · rw [if_neg z]
    exact ⟨Or.inl, fun h => h.elim id (fun y => absurd y.1 z)⟩
theorem fu_nw_pre {lo : Nat → Int32} (P : fu_Pre lo) {a b : Nat} (ha : a < 8) (hb : b < 8) : fu_Pre (fu_nw lo a b) := by
  refine ⟨fun t i ht h => ?_, fun t ht => ?_, fun x y z hx hy hz h1 h2 => ?_⟩
  · rw [fu_nw_b] at h
    exact h.elim (fun y => P.1 t i ht y) (fun y => P.1 a i ha y.2)
  · rw [fu_nw_b]
    exact Or.inl (P.2.1 t ht)
  · rw [fu_nw_b] at h1 h2 ⊢
    have T := P.2.2
    rcases h1 with h1 | ⟨h1, h1'⟩ <;> rcases h2 with h2 | ⟨h2, h2'⟩
    · exact Or.inl (T x y z hx hy hz h1 h2)
    · exact Or.inr ⟨h2, T x y a hx hy ha h1 h2'⟩
    · exact Or.inr ⟨T b y z hb hy hz h1 h2, h1'⟩
    · exact Or.inr ⟨h2, h1'⟩
theorem fu_nw_ant {lo : Nat → Int32} (P : fu_Pre lo) (A : fu_Ant lo) {a b : Nat} (ha : a < 8) (hb : b < 8) (h : a = b ∨ bt (lo a) b = false) : fu_Ant (fu_nw lo a b) := by
  have T := P.2.2
  have K : ∀ x y, x < 8 → y < 8 → bt (lo a) b = true → bt (lo y) b = true → bt (lo a) x = true → bt (lo y) x = true := by
    intro x y hx hy h1 h2 h3
    rcases h with h | h
    · rw [h] at h3
      exact T x b y hx hb hy h3 h2
    · rw [h] at h1
      exact absurd h1 (by decide)
  intro x y hx hy h1 h2
  rw [fu_nw_b] at h1 h2
  rcases h1 with h1 | ⟨h1, h1'⟩ <;> rcases h2 with h2 | ⟨h2, h2'⟩
  · exact A x y hx hy h1 h2
  · have h3 : bt (lo a) b = true := T b y a hb hy ha (T b x y hb hx hy h2 h1) h2'
    exact A x y hx hy h1 (K y x hy hx h3 h2 h2')
  · have h3 : bt (lo a) b = true := T b x a hb hx ha (T b y x hb hy hx h1 h2) h1'
    exact A x y hx hy (K x y hx hy h3 h1 h1') h2
  · have h3 : bt (lo a) b = true := T b x a hb hx ha h2 h1'
    exact A x y hx hy (K x y hx hy h3 h1 h1') (K y x hy hx h3 h2 h2')
def fu_okX (lo : Nat → Int32) : Prop := ∀ a b, a < 8 → b < a → lo a &&& lo b ≠ 0 → fu_mt lo a b ≠ -4
def fu_okY (lo : Nat → Int32) : Prop := ∀ a b, a < 8 → b < 8 → ¬ ((a ≠ b ∧ bt (lo a) b = true ∧ bt (lo b) a = true) ∨ (lo a &&& lo b ≠ 0 ∧ fu_gr lo (lo a &&& lo b) = -4))
theorem fu_okX_mee {lo : Nat → Int32} (h : fu_okX lo) : fu_Mee lo := by
  intro a b ha hb ⟨i, h1, h2⟩
  have nz : lo a &&& lo b ≠ 0 := by
    intro z
    have h3 : bt (lo a &&& lo b) i = true := by rw [b_and, h1, h2]; rfl
    rw [z, b_0] at h3
    exact absurd h3 (by decide)
  have key : fu_mt lo a b ≠ -4 ∨ a = b := by
    rcases Nat.lt_trichotomy a b with z | z | z
    · refine Or.inl ?_
      rw [fu_mts]
      rw [fu_andc] at nz
      exact h b a hb z nz
    · exact Or.inr z
    · exact Or.inl (h a b ha z nz)
  rcases key with k | k
  · rcases fu_mt_sp lo a b with ⟨e, _⟩ | ⟨t, ht, _, e⟩
    · exact absurd e k
    · exact ⟨t, ht, e⟩
  · subst k
    exact ⟨a, ha, (fu_ands _).symm⟩
theorem fu_ok {lo : Nat → Int32} (P : fu_Pre lo) (A : fu_Ant lo) : fu_okY lo ↔ fu_okX lo := by
  constructor
  · intro h a b ha hb nz e
    exact h a b ha (by omega) (Or.inr ⟨nz, (fu_gm P ha (by omega)).trans e⟩)
  · intro h a b ha hb z
    rcases z with ⟨n, h1, h2⟩ | ⟨nz, e⟩
    · exact n (A a b ha hb h2 h1)
    · obtain ⟨i, hi⟩ := fu_nz2 nz
      rw [b_and, Bool.and_eq_true] at hi
      obtain ⟨t, ht, e2⟩ := fu_okX_mee h a b ha hb ⟨i, hi.1, hi.2⟩
      rw [← e2, fu_gs P A ht] at e
      exact fu_ne (by omega) e
theorem fu_turn {lo : Nat → Int32} (P : fu_Pre lo) {a b : Nat} (ha : a < 8) (hb : b < 8) (n : a ≠ b) (h : bt (lo a) b = true) : ¬ fu_okY (fu_nw lo a b) := by
  intro k
  refine k a b ha hb (Or.inl ⟨n, ?_, ?_⟩)
  · rw [fu_nw_b]
    exact Or.inl h
  · rw [fu_nw_b]
    exact Or.inr ⟨P.2.1 b hb, P.2.1 a ha⟩
theorem fu_fit_cg {lo l2 : Nat → Int32} (h : ∀ t, t < 8 → l2 t = lo t) (F : fu_Fit lo) : fu_Fit l2 := by
  refine ⟨⟨fun t i ht => ?_, fun t ht => ?_, fun a b c ha hb hc => ?_⟩, fun a b ha hb => ?_, fun a b ha hb => ?_⟩
  · rw [h t ht]; exact F.1.1 t i ht
  · rw [h t ht]; exact F.1.2.1 t ht
  · rw [h b hb, h c hc]; exact F.1.2.2 a b c ha hb hc
  · rw [h a ha, h b hb]; exact F.2.1 a b ha hb
  · rw [h a ha, h b hb]
    intro k
    obtain ⟨t, ht, e⟩ := F.2.2 a b ha hb k
    exact ⟨t, ht, (h t ht).trans e⟩
/-- the first hierarchy -/
def fu_l0 : Nat → Int32 := fun t => if t = 0 then 255 else if t < 8 then (1 : Int32) <<< (nI t &&& 31) else 0
theorem fu_l0_b {t : Nat} (ht : t < 8) (i : Nat) : bt (fu_l0 t) i = true ↔ i < 8 ∧ (t = 0 ∨ i = t) := by
  unfold fu_l0
  by_cases z : t = 0
  · rw [if_pos z, b_255, decide_eq_true_iff]
    exact ⟨fun h => ⟨h, Or.inl z⟩, fun h => h.1⟩
  · rw [if_neg z, if_pos ht]
    constructor
    · intro h
      have h32 := fu_lt h
      rw [fu_one (by omega) h32, decide_eq_true_iff] at h
      exact ⟨by omega, Or.inr h⟩
    · intro h
      rw [fu_one (by omega) (by omega), decide_eq_true_iff]
      exact h.2.resolve_left z
theorem fu_l0_fit : fu_Fit fu_l0 := by
  refine ⟨⟨fun t i ht h => ?_, fun t ht => ?_, fun a b c ha hb hc h1 h2 => ?_⟩, fun a b ha hb h1 h2 => ?_, fun a b ha hb h => ?_⟩
  · exact ((fu_l0_b ht i).mp h).1
  · exact (fu_l0_b ht t).mpr ⟨ht, Or.inr rfl⟩
  · have k1 := (fu_l0_b hb a).mp h1
    have k2 := (fu_l0_b hc b).mp h2
    refine (fu_l0_b hc a).mpr ⟨ha, ?_⟩
    omega
  · have k1 := (fu_l0_b hb a).mp h1
    have k2 := (fu_l0_b ha b).mp h2
    omega
  · obtain ⟨i, h1, h2⟩ := h
    have k1 := (fu_l0_b ha i).mp h1
    have k2 := (fu_l0_b hb i).mp h2
    have key : ∀ x y, x < 8 → y < 8 → (y = 0 ∨ x = y) → fu_l0 x = fu_l0 x &&& fu_l0 y := by
      intro x y hx hy hxy
      refine b_ext fun j _ => ?_
      rw [b_and]
      cases hb2 : bt (fu_l0 x) j with
      | false => rfl
      | true =>
        have k3 := (fu_l0_b hx j).mp hb2
        have k4 : bt (fu_l0 y) j = true := (fu_l0_b hy j).mpr ⟨k3.1, by omega⟩
        rw [k4]
        rfl
    by_cases z : b = 0 ∨ a = b
    · exact ⟨a, ha, key a b ha hb z⟩
    · refine ⟨b, hb, ?_⟩
      rw [fu_andc]
      exact key b a hb ha (by omega)
end
section
/-! pictures, congruences -/
def fu_WF (cnt : Nat) (c t : Nat → Nat) (v : Nat → Nat → Option Nat) : Prop :=
  cnt ≤ 16 ∧ (∀ p, p < cnt → c p ≤ p ∧ c (c p) = c p) ∧ (∀ p, p < cnt → c p = p → t p < 8) ∧
  (∀ p f d, p < cnt → c p = p → f < 3 → v p f = some d → d < cnt ∧ c d = d)
def fu_PC (cnt : Nat) (c t : Nat → Nat) (v : Nat → Nat → Option Nat) (A T V : Nat → Int32) : Prop :=
  (∀ p, p < cnt → A p = nI (c p)) ∧ (∀ p, p < cnt → c p = p → T p = nI (t p)) ∧
  (∀ p f, p < cnt → c p = p → f < 3 → V (3 * p + f) = fu_v (v p f))
def fu_Cg (cnt : Nat) (c : Nat → Nat) (v : Nat → Nat → Option Nat) (n m : Nat) (h : Nat → Nat) : Prop :=
  (∀ p, p < cnt → h (c p) = h p) ∧ h n = h m ∧
  (∀ p q f d e, p < cnt → q < cnt → f < 3 → c p = p → c q = q → h p = h q → v p f = some d → v q f = some e → h d = h e)
def fu_Lc (cnt : Nat) (c : Nat → Nat) (v : Nat → Nat → Option Nat) (n m : Nat) (g : Nat → Nat) : Prop :=
  (∀ p, p < cnt → g p ≤ p ∧ g (g p) = g p) ∧ fu_Cg cnt c v n m g ∧ ∀ h, fu_Cg cnt c v n m h → ∀ p, p < cnt → h (g p) = h p
theorem fu_Lc_u {cnt : Nat} {c : Nat → Nat} {v : Nat → Nat → Option Nat} {n m : Nat} {g1 g2 : Nat → Nat} (h1 : fu_Lc cnt c v n m g1) (h2 : fu_Lc cnt c v n m g2) {p : Nat} (hp : p < cnt) : g1 p = g2 p := by
  have a1 := (h1.1 p hp).1
  have a2 := (h2.1 p hp).1
  have b1 := h1.2.2 g2 h2.2.1 p hp
  have b2 := h2.2.2 g1 h1.2.1 p hp
  have c1 := (h2.1 (g1 p) (by omega)).1
  have c2 := (h1.1 (g2 p) (by omega)).1
  rw [b1] at c1
  rw [b2] at c2
  omega
def fu_rn (g k d : Nat) : Nat := if d = g then k else d
theorem fu_rn_g (g k : Nat) : fu_rn g k g = k := if_pos rfl
theorem fu_rn_n {g k d : Nat} (h : d ≠ g) : fu_rn g k d = d := if_neg h
theorem fu_rn_h {g k : Nat} {h : Nat → Nat} (e : h g = h k) (d : Nat) : h (fu_rn g k d) = h d := by
  by_cases z : d = g
  · rw [z, fu_rn_g, e]
  · rw [fu_rn_n z]
def fu_ld (g : Nat → Nat) (cnt : Nat) : Nat := fu_cd (fun p => decide (g p = p)) cnt
theorem fu_ld_1 {g : Nat → Nat} {cnt : Nat} (h : ∀ p, p < cnt → g p ≤ p ∧ g (g p) = g p) (h0 : 0 < cnt) : 1 ≤ fu_ld g cnt := by
  refine fu_cd_1 h0 (decide_eq_true ?_)
  have := (h 0 h0).1
  omega
theorem fu_ld_rn {c1 : Nat → Nat} {cnt g k : Nat} (hg : g < cnt) (eg : c1 g = g) (ek : c1 k = k) (hk : k ≠ g) : fu_ld (fun p => fu_rn g k (c1 p)) cnt < fu_ld c1 cnt := by
  refine fu_cd_lt cnt (fun i hi z => ?_) g hg (decide_eq_false ?_) (decide_eq_true eg)
  · have z : fu_rn g k (c1 i) = i := of_decide_eq_true z
    refine decide_eq_true ?_
    by_cases y : c1 i = g
    · rw [y, fu_rn_g] at z
      subst z
      rw [ek] at y
      exact absurd y hk
    · rw [fu_rn_n y] at z
      exact z
  · show ¬ fu_rn g k (c1 g) = g
    rw [eg, fu_rn_g]
    exact hk
/-! X: the work list -/
def fu_Cp (cnt : Nat) (c1 L R : Nat → Nat) (a pc : Nat) (h : Nat → Nat) : Prop :=
  (∀ q, q < cnt → h (c1 q) = h q) ∧ ∀ i, a ≤ i → i < pc → h (L i) = h (R i)
def fu_X (cnt : Nat) (c t : Nat → Nat) (v : Nat → Nat → Option Nat) (lo : Nat → Int32) (n m : Nat) (c1 t1 : Nat → Nat) (v1 : Nat → Nat → Option Nat) (L R : Nat → Nat) (a pc : Nat) : Prop :=
  (∀ p, p < cnt → c1 p ≤ p ∧ c1 (c1 p) = c1 p) ∧
  (∀ p, p < cnt → c1 (c p) = c1 p) ∧
  (∀ h, fu_Cg cnt c v n m h → ∀ p, p < cnt → h (c1 p) = h p) ∧
  (∀ i, i < pc → L i < cnt ∧ R i < cnt ∧ ∀ h, fu_Cg cnt c v n m h → h (L i) = h (R i)) ∧
  (∀ p f d, p < cnt → c1 p = p → f < 3 → v1 p f = some d → d < cnt ∧ c1 d = d ∧ ∃ q e, q < cnt ∧ c q = q ∧ c1 q = p ∧ v q f = some e ∧ c1 e = d) ∧
  (∀ p f e, p < cnt → c p = p → f < 3 → v p f = some e → ∃ d, v1 (c1 p) f = some d ∧ ∀ h, fu_Cp cnt c1 L R a pc h → h e = h d) ∧
  (∀ h, fu_Cp cnt c1 L R a pc h → h n = h m) ∧
  (∀ p, p < cnt → c1 p = p → t1 p < 8 ∧ ∀ i, bt (lo (t1 p)) i = true ↔ ∀ q, q < cnt → c1 q = p → bt (lo (t (c q))) i = true) ∧
  pc + 3 * fu_ld c1 cnt ≤ 3 * cnt + 1
section
variable {cnt : Nat} {c t : Nat → Nat} {v : Nat → Nat → Option Nat} {lo : Nat → Int32} {n m : Nat} {c1 t1 : Nat → Nat} {v1 : Nat → Nat → Option Nat} {L R : Nat → Nat} {a pc : Nat}
theorem fu_X0 (W : fu_WF cnt c t v) (hn : n < cnt) (hm : m < cnt) (hL : L 0 = n) (hR : R 0 = m) : fu_X cnt c t v lo n m c t v L R 0 1 := by
  obtain ⟨w1, w2, w3, w4⟩ := W
  refine ⟨w2, fun p hp => (w2 p hp).2, fun h H => H.1, fun i hi => ?_, fun p f d hp e hf hv => ?_, fun p f e hp ec hf hv => ?_, fun h H => ?_, fun p hp e => ?_, ?_⟩
  · have : i = 0 := by omega
    subst this
    rw [hL, hR]
    exact ⟨hn, hm, fun h H => H.2.1⟩
  · have k := w4 p f d hp e hf hv
    exact ⟨k.1, k.2, p, d, hp, e, e, hv, k.2⟩
  · rw [ec]
    exact ⟨e, hv, fun _ _ => rfl⟩
  · have := H.2 0 (by omega) (by omega)
    rw [hL, hR] at this
    exact this
  · refine ⟨w3 p hp e, fun i => ⟨fun h q hq eq => ?_, fun h => ?_⟩⟩
    · rw [eq]; exact h
    · have := h p hp e
      rw [e] at this
      exact this
  · have := fu_cd_le (fun p => decide (c p = p)) cnt
    unfold fu_ld
    omega
theorem fu_Xs (I : fu_X cnt c t v lo n m c1 t1 v1 L R a pc) (ha : a < pc) (e : c1 (L a) = c1 (R a)) : fu_X cnt c t v lo n m c1 t1 v1 L R (a + 1) pc := by
  obtain ⟨i1, i2, i3, i4, i5, i6, i7, i8, i9⟩ := I
  have K : ∀ h, fu_Cp cnt c1 L R (a + 1) pc h → fu_Cp cnt c1 L R a pc h := by
    intro h H
    refine ⟨H.1, fun i h1 h2 => ?_⟩
    by_cases z : i = a
    · subst z
      have k := i4 i h2
      rw [← H.1 _ k.1, ← H.1 _ k.2.1, e]
    · exact H.2 i (by omega) h2
  refine ⟨i1, i2, i3, i4, i5, fun p f e hp ec hf hv => ?_, fun h H => i7 h (K h H), i8, i9⟩
  obtain ⟨d, h1, h2⟩ := i6 p f e hp ec hf hv
  exact ⟨d, h1, fun h H => h2 h (K h H)⟩
theorem fu_Xe (W : fu_WF cnt c t v) (I : fu_X cnt c t v lo n m c1 t1 v1 L R a pc) (ha : pc ≤ a) : fu_Lc cnt c v n m c1 ∧ fu_WF cnt c1 t1 v1 := by
  obtain ⟨i1, i2, i3, i4, i5, i6, i7, i8, i9⟩ := I
  have K : fu_Cp cnt c1 L R a pc c1 := ⟨fun q hq => (i1 q hq).2, fun i h1 h2 => by omega⟩
  refine ⟨⟨i1, ⟨i2, i7 c1 K, fun p q f d e hp hq hf ep eq epq hd he => ?_⟩, i3⟩, W.1, i1, fun p hp e => (i8 p hp e).1, fun p f d hp e hf hv => ?_⟩
  · obtain ⟨d1, h1, h2⟩ := i6 p f d hp ep hf hd
    obtain ⟨d2, h3, h4⟩ := i6 q f e hq eq hf he
    rw [← epq, h1] at h3
    cases h3
    rw [h2 c1 K, h4 c1 K]
  · have k := i5 p f d hp e hf hv
    exact ⟨k.1, k.2.1⟩
def fu_Bad (cnt : Nat) (c t : Nat → Nat) (v : Nat → Nat → Option Nat) (lo : Nat → Int32) (n m : Nat) : Prop :=
  ∃ a, a < cnt ∧ ∀ h, fu_Cg cnt c v n m h → ∀ i, ∃ p, p < cnt ∧ h p = h a ∧ bt (lo (t (c p))) i = false
theorem fu_Xf (M : fu_Mee lo) (I : fu_X cnt c t v lo n m c1 t1 v1 L R a pc) (ha : a < pc) (e : fu_mt lo (t1 (c1 (L a))) (t1 (c1 (R a))) = -4) : fu_Bad cnt c t v lo n m := by
  obtain ⟨i1, i2, i3, i4, i5, i6, i7, i8, i9⟩ := I
  obtain ⟨hl, hr, hlr⟩ := i4 a ha
  have kl := i1 _ hl
  have kr := i1 _ hr
  have ll : c1 (L a) < cnt := by omega
  have lr : c1 (R a) < cnt := by omega
  have tl := i8 _ ll kl.2
  have tr := i8 _ lr kr.2
  refine ⟨c1 (L a), ll, fun h H i => ?_⟩
  have eh : h (c1 (L a)) = h (c1 (R a)) := by rw [i3 h H _ hl, i3 h H _ hr, hlr h H]
  have N : ∀ x, x < cnt → c1 x = x → (∀ j, bt (lo (t1 x)) j = true ↔ ∀ q, q < cnt → c1 q = x → bt (lo (t (c q))) j = true) → h x = h (c1 (L a)) → bt (lo (t1 x)) i = false → ∃ p, p < cnt ∧ h p = h (c1 (L a)) ∧ bt (lo (t (c p))) i = false := by
    intro x hx ex b ehx hb
    refine Classical.byContradiction fun z => ?_
    have : bt (lo (t1 x)) i = true := (b i).mpr fun q hq eq => by
      cases y : bt (lo (t (c q))) i with
      | true => rfl
      | false =>
        refine absurd ⟨q, hq, ?_, y⟩ z
        rw [← i3 h H q hq, eq, ehx]
    rw [this] at hb
    exact absurd hb (by decide)
  cases y : bt (lo (t1 (c1 (L a)))) i with
  | false => exact N _ ll kl.2 tl.2 rfl y
  | true =>
    cases x : bt (lo (t1 (c1 (R a)))) i with
    | false => exact N _ lr kr.2 tr.2 eh.symm x
    | true =>
      obtain ⟨s, hs, es⟩ := M _ _ tl.1 tr.1 ⟨i, y, x⟩
      rcases fu_mt_sp lo (t1 (c1 (L a))) (t1 (c1 (R a))) with ⟨_, k⟩ | ⟨s2, h2, e2, _⟩
      · exact absurd es (k s hs)
      · rw [e2] at e
        exact absurd e (fu_ne (by omega))
end
end
section
/-! X: one merge -/
def fu_JP (vg vk : Nat → Option Nat) (L R : Nat → Nat) (pc : Nat) (L2 R2 : Nat → Nat) (pc2 F : Nat) : Prop :=
  pc ≤ pc2 ∧ pc2 ≤ pc + F ∧ (∀ i, i < pc → L2 i = L i ∧ R2 i = R i) ∧
  (∀ i, pc ≤ i → i < pc2 → ∃ f d e, f < F ∧ vg f = some d ∧ vk f = some e ∧ L2 i = d ∧ R2 i = e) ∧
  (∀ f d e, f < F → vg f = some d → vk f = some e → d ≠ e → ∃ i, pc ≤ i ∧ i < pc2 ∧ L2 i = d ∧ R2 i = e)
def fu_rv (g k : Nat) (o : Option Nat) : Option Nat := match o with
  | none => none
  | some d => some (fu_rn g k d)
theorem fu_rv_s {g k : Nat} {o : Option Nat} {d : Nat} (h : fu_rv g k o = some d) : ∃ e, o = some e ∧ fu_rn g k e = d := by
  cases o with
  | none => exact nomatch h
  | some e => exact ⟨e, rfl, Option.some.inj h⟩
def fu_jv (vg vk : Option Nat) : Option Nat := match vk with
  | none => vg
  | some d => some d
def fu_v2 (v1 : Nat → Nat → Option Nat) (g k : Nat) : Nat → Nat → Option Nat := fun p f => if p = k then fu_jv (fu_rv g k (v1 g f)) (fu_rv g k (v1 k f)) else fu_rv g k (v1 p f)
section
variable {cnt : Nat} {c t : Nat → Nat} {v : Nat → Nat → Option Nat} {lo : Nat → Int32} {n m : Nat} {c1 t1 : Nat → Nat} {v1 : Nat → Nat → Option Nat} {L R : Nat → Nat} {a pc : Nat}
theorem fu_Xm {L2 R2 : Nat → Nat} {pc2 k g ty : Nat} (I : fu_X cnt c t v lo n m c1 t1 v1 L R a pc) (W : fu_WF cnt c t v) (ha : a < pc)
    (hkg : k < g) (hor : (c1 (L a) = k ∧ c1 (R a) = g) ∨ (c1 (L a) = g ∧ c1 (R a) = k)) (hty : ty < 8) (hl : lo ty = lo (t1 k) &&& lo (t1 g))
    (JP : fu_JP (fun f => fu_rv g k (v1 g f)) (fun f => fu_rv g k (v1 k f)) L R pc L2 R2 pc2 3) :
    fu_X cnt c t v lo n m (fun p => fu_rn g k (c1 p)) (fun p => if p = k then ty else t1 p) (fu_v2 v1 g k) L2 R2 (a + 1) pc2 := by
  obtain ⟨i1, i2, i3, i4, i5, i6, i7, i8, i9⟩ := I
  obtain ⟨w1, w2, w3, w4⟩ := W
  obtain ⟨j1, j2, j3, j4, j5⟩ := JP
  obtain ⟨hL, hR, hLR⟩ := i4 a ha
  have bL := i1 _ hL
  have bR := i1 _ hR
  have hk : k < cnt := by omega
  have hg : g < cnt := by omega
  have ek : c1 k = k := by
    rcases hor with ⟨x, y⟩ | ⟨x, y⟩
    · rw [x] at bL; exact bL.2
    · rw [y] at bR; exact bR.2
  have eg : c1 g = g := by
    rcases hor with ⟨x, y⟩ | ⟨x, y⟩
    · rw [y] at bR; exact bR.2
    · rw [x] at bL; exact bL.2
  have nkg : k ≠ g := by omega
  -- a congruence makes g and k one
  have hgk : ∀ h, fu_Cg cnt c v n m h → h g = h k := by
    intro h H
    have h1 := i3 h H _ hL
    have h2 := i3 h H _ hR
    have h3 := hLR h H
    rcases hor with ⟨x, y⟩ | ⟨x, y⟩
    · rw [x] at h1; rw [y] at h2; omega
    · rw [x] at h1; rw [y] at h2; omega
  have s3 : ∀ h, fu_Cg cnt c v n m h → ∀ p, p < cnt → h (fu_rn g k (c1 p)) = h p := by
    intro h H p hp
    rw [fu_rn_h (hgk h H), i3 h H p hp]
  -- what goes with the new goes with the old
  have K : ∀ h, fu_Cp cnt (fun p => fu_rn g k (c1 p)) L2 R2 (a + 1) pc2 h → h g = h k ∧ fu_Cp cnt c1 L R a pc h := by
    intro h H
    have e : h g = h k := by
      have this : h (fu_rn g k (c1 g)) = h g := H.1 g hg
      rw [eg, fu_rn_g] at this
      exact this.symm
    have H1 : ∀ q, q < cnt → h (c1 q) = h q := by
      intro q hq
      have this : h (fu_rn g k (c1 q)) = h q := H.1 q hq
      rw [fu_rn_h e] at this
      exact this
    refine ⟨e, H1, fun i h1 h2 => ?_⟩
    by_cases z : i = a
    · subst z
      rw [← H1 _ hL, ← H1 _ hR]
      rcases hor with ⟨x, y⟩ | ⟨x, y⟩
      · rw [x, y, e]
      · rw [x, y, e]
    · have h3 := H.2 i (by omega) (by omega)
      rw [(j3 i h2).1, (j3 i h2).2] at h3
      exact h3
  have cl : ∀ p, p < cnt → fu_rn g k (c1 p) = p → c1 p = p ∧ p ≠ g := by
    intro p hp h
    by_cases z : c1 p = g
    · rw [z, fu_rn_g] at h
      subst h
      rw [ek] at z
      exact absurd z nkg
    · rw [fu_rn_n z] at h
      refine ⟨h, fun y => z ?_⟩
      rw [h, y]
  -- a value of k or g, renamed, comes from an old value
  have F5 : ∀ p f d, p < cnt → c1 p = p → f < 3 → fu_rv g k (v1 p f) = some d → d < cnt ∧ fu_rn g k (c1 d) = d ∧ ∃ q e, q < cnt ∧ c q = q ∧ c1 q = p ∧ v q f = some e ∧ e < cnt ∧ fu_rn g k (c1 e) = d := by
    intro p f d hp ep hf h
    obtain ⟨d0, h0, e0⟩ := fu_rv_s h
    obtain ⟨x1, x2, q, e, x3, x4, x5, x6, x7⟩ := i5 p f d0 hp ep hf h0
    have x8 := w4 q f e x3 x4 hf x6
    by_cases z : d0 = g
    · rw [z, fu_rn_g] at e0
      subst e0
      refine ⟨hk, ?_, q, e, x3, x4, x5, x6, x8.1, ?_⟩
      · rw [ek, fu_rn_n nkg]
      · rw [x7, z, fu_rn_g]
    · rw [fu_rn_n z] at e0
      subst e0
      refine ⟨x1, ?_, q, e, x3, x4, x5, x6, x8.1, ?_⟩
      · rw [x2, fu_rn_n z]
      · rw [x7, fu_rn_n z]
  refine ⟨fun p hp => ?_, fun p hp => ?_, s3, fun i hi => ?_, fun p f d hp ep hf hv => ?_, fun p f e hp ec hf hv => ?_, fun h H => i7 h (K h H).2, fun p hp ep => ?_, ?_⟩
  · have h1 := i1 p hp
    by_cases z : c1 p = g
    · show fu_rn g k (c1 p) ≤ p ∧ fu_rn g k (c1 (fu_rn g k (c1 p))) = fu_rn g k (c1 p)
      rw [z, fu_rn_g, ek, fu_rn_n nkg]
      exact ⟨by omega, rfl⟩
    · show fu_rn g k (c1 p) ≤ p ∧ fu_rn g k (c1 (fu_rn g k (c1 p))) = fu_rn g k (c1 p)
      rw [fu_rn_n z, h1.2, fu_rn_n z]
      exact ⟨h1.1, rfl⟩
  · show fu_rn g k (c1 (c p)) = fu_rn g k (c1 p)
    rw [i2 p hp]
  · by_cases z : i < pc
    · rw [(j3 i z).1, (j3 i z).2]
      exact i4 i z
    · obtain ⟨f, d, e, hf, hd, he, el, er⟩ := j4 i (by omega) hi
      rw [el, er]
      obtain ⟨x1, _, q, d0, x3, x4, x5, x6, x7, x8⟩ := F5 g f d hg eg hf hd
      obtain ⟨y1, _, r, e0, y3, y4, y5, y6, y7, y8⟩ := F5 k f e hk ek hf he
      refine ⟨x1, y1, fun h H => ?_⟩
      rw [← x8, ← y8, s3 h H d0 x7, s3 h H e0 y7]
      refine H.2.2 q r f d0 e0 x3 y3 hf x4 y4 ?_ x6 y6
      have z1 := i3 h H q x3
      have z2 := i3 h H r y3
      rw [x5] at z1
      rw [y5] at z2
      rw [← z1, ← z2, hgk h H]
  · obtain ⟨ep1, npg⟩ := cl p hp ep
    unfold fu_v2 at hv
    by_cases z : p = k
    · subst z
      rw [if_pos rfl] at hv
      have key : ∃ x, x < cnt ∧ c1 x = x ∧ (x = p ∨ x = g) ∧ fu_rv g p (v1 x f) = some d := by
        cases y : fu_rv g p (v1 p f) with
        | none => rw [y] at hv; exact ⟨g, hg, eg, Or.inr rfl, hv⟩
        | some d2 => rw [y] at hv; exact ⟨p, hp, ep1, Or.inl rfl, by rw [y]; exact hv⟩
      obtain ⟨x, hx, ex, xo, hxv⟩ := key
      obtain ⟨x1, x2, q, e, x3, x4, x5, x6, x7, x8⟩ := F5 x f d hx ex hf hxv
      refine ⟨x1, x2, q, e, x3, x4, ?_, x6, x8⟩
      show fu_rn g p (c1 q) = p
      rw [x5]
      rcases xo with xo | xo
      · rw [xo, fu_rn_n nkg]
      · rw [xo, fu_rn_g]
    · rw [if_neg z] at hv
      obtain ⟨x1, x2, q, e, x3, x4, x5, x6, x7, x8⟩ := F5 p f d hp ep1 hf hv
      refine ⟨x1, x2, q, e, x3, x4, ?_, x6, x8⟩
      show fu_rn g k (c1 q) = p
      rw [x5, fu_rn_n npg]
  · obtain ⟨d, hd, hh⟩ := i6 p f e hp ec hf hv
    have hd2 : fu_rv g k (v1 (c1 p) f) = some (fu_rn g k d) := by rw [hd]; rfl
    have hh2 : ∀ h, fu_Cp cnt (fun p => fu_rn g k (c1 p)) L2 R2 (a + 1) pc2 h → h e = h (fu_rn g k d) := by
      intro h H
      rw [fu_rn_h (K h H).1, hh h (K h H).2]
    show ∃ d, fu_v2 v1 g k (fu_rn g k (c1 p)) f = some d ∧ _
    by_cases z : c1 p = g
    · rw [z, fu_rn_g]
      rw [z] at hd2
      unfold fu_v2
      rw [if_pos rfl]
      cases y : fu_rv g k (v1 k f) with
      | none => exact ⟨_, hd2, hh2⟩
      | some d2 =>
        refine ⟨d2, rfl, fun h H => ?_⟩
        rw [hh2 h H]
        by_cases x : fu_rn g k d = d2
        · rw [x]
        · obtain ⟨i, q1, q2, q3, q4⟩ := j5 f _ _ hf hd2 y x
          have := H.2 i (by omega) q2
          rw [q3, q4] at this
          exact this
    · rw [fu_rn_n z]
      unfold fu_v2
      by_cases y : c1 p = k
      · rw [y] at hd2
        rw [if_pos y, hd2]
        exact ⟨_, rfl, hh2⟩
      · rw [if_neg y]
        exact ⟨_, hd2, hh2⟩
  · obtain ⟨ep1, npg⟩ := cl p hp ep
    by_cases z : p = k
    · subst z
      show (if p = p then ty else t1 p) < 8 ∧ ∀ i, bt (lo (if p = p then ty else t1 p)) i = true ↔ _
      rw [if_pos rfl]
      refine ⟨hty, fun i => ?_⟩
      rw [hl, b_and, Bool.and_eq_true, (i8 p hk ek).2 i, (i8 g hg eg).2 i]
      refine ⟨fun h q hq eq => ?_, fun h => ⟨fun q hq eq => h q hq ?_, fun q hq eq => h q hq ?_⟩⟩
      · have eq : fu_rn g p (c1 q) = p := eq
        by_cases y : c1 q = g
        · exact h.2 q hq y
        · rw [fu_rn_n y] at eq
          exact h.1 q hq eq
      · show fu_rn g p (c1 q) = p
        rw [eq, fu_rn_n nkg]
      · show fu_rn g p (c1 q) = p
        rw [eq, fu_rn_g]
    · show (if p = k then ty else t1 p) < 8 ∧ ∀ i, bt (lo (if p = k then ty else t1 p)) i = true ↔ _
      rw [if_neg z]
      refine ⟨(i8 p hp ep1).1, fun i => ?_⟩
      rw [(i8 p hp ep1).2 i]
      refine ⟨fun h q hq eq => h q hq ?_, fun h q hq eq => h q hq ?_⟩
      · have eq : fu_rn g k (c1 q) = p := eq
        by_cases y : c1 q = g
        · rw [y, fu_rn_g] at eq
          exact absurd eq.symm z
        · rw [fu_rn_n y] at eq
          exact eq
      · show fu_rn g k (c1 q) = p
        rw [eq, fu_rn_n npg]
  · have := fu_ld_rn hg eg ek nkg
    omega
theorem fu_Xpc (I : fu_X cnt c t v lo n m c1 t1 v1 L R a pc) (w1 : cnt ≤ 16) (h0 : 0 < cnt) : pc ≤ 46 := by
  have h1 := fu_ld_1 I.1 h0
  have h2 := I.2.2.2.2.2.2.2.2
  omega
theorem fu_Xpm (I : fu_X cnt c t v lo n m c1 t1 v1 L R a pc) (w1 : cnt ≤ 16) {k g : Nat} (hk : k < g) (hg : g < cnt) (ek : c1 k = k) (eg : c1 g = g) : pc ≤ 43 := by
  have h1 := fu_ld_rn (k := k) hg eg ek (by omega)
  have h3 : 1 ≤ fu_ld (fun p => fu_rn g k (c1 p)) cnt := by
    refine fu_cd_1 (j := k) (by omega) (decide_eq_true ?_)
    show fu_rn g k (c1 k) = k
    rw [ek, fu_rn_n (by omega)]
  have h2 := I.2.2.2.2.2.2.2.2
  omega
end
end
section
/-! Y: rounds -/
def fu_Y (cnt : Nat) (c : Nat → Nat) (v : Nat → Nat → Option Nat) (n m : Nat) (g : Nat → Nat) : Prop :=
  (∀ p, p < cnt → g p ≤ p ∧ g (g p) = g p) ∧ (∀ p, p < cnt → g (c p) = g p) ∧ ∀ h, fu_Cg cnt c v n m h → ∀ p, p < cnt → h (g p) = h p
def fu_hi (x y : Nat) : Nat := if x < y then y else x
def fu_lw (x y : Nat) : Nat := if x < y then x else y
def fu_un (g : Nat → Nat) (x y : Nat) : Nat → Nat := fun p => fu_rn (fu_hi (g x) (g y)) (fu_lw (g x) (g y)) (g p)
theorem fu_hl (x y : Nat) : (x < y ∧ fu_lw x y = x ∧ fu_hi x y = y) ∨ (y < x ∧ fu_lw x y = y ∧ fu_hi x y = x) ∨ (x = y ∧ fu_lw x y = y ∧ fu_hi x y = x) := by
  unfold fu_hi fu_lw
  by_cases h : x < y
  · rw [if_pos h, if_pos h]
    exact Or.inl ⟨h, rfl, rfl⟩
  · rw [if_neg h, if_neg h]
    by_cases z : y < x
    · exact Or.inr (Or.inl ⟨z, rfl, rfl⟩)
    · exact Or.inr (Or.inr ⟨by omega, rfl, rfl⟩)
section
variable {cnt : Nat} {c t : Nat → Nat} {v : Nat → Nat → Option Nat} {lo : Nat → Int32} {n m : Nat}
theorem fu_Y0 (W : fu_WF cnt c t v) : fu_Y cnt c v n m c := ⟨W.2.1, fun p hp => (W.2.1 p hp).2, fun h H => H.1⟩
theorem fu_un_e {g : Nat → Nat} {x y : Nat} (e : g x = g y) (p : Nat) : fu_un g x y p = g p := by
  unfold fu_un
  rcases fu_hl (g x) (g y) with h | h | h
  · omega
  · omega
  · rw [h.2.1, h.2.2, e]
    by_cases z : g p = g y
    · rw [z, fu_rn_g]
    · rw [fu_rn_n z]
theorem fu_un_xy {g : Nat → Nat} {x y : Nat} : fu_un g x y x = fu_un g x y y := by
  unfold fu_un
  rcases fu_hl (g x) (g y) with h | h | h
  · rw [h.2.1, h.2.2, fu_rn_g, fu_rn_n (by omega)]
  · rw [h.2.1, h.2.2, fu_rn_g, fu_rn_n (by omega)]
  · rw [h.1]
theorem fu_Y_un {g : Nat → Nat} {x y : Nat} (I : fu_Y cnt c v n m g) (hx : x < cnt) (hy : y < cnt) (s : ∀ h, fu_Cg cnt c v n m h → h x = h y) : fu_Y cnt c v n m (fu_un g x y) ∧ (g x ≠ g y → fu_ld (fu_un g x y) cnt < fu_ld g cnt) := by
  obtain ⟨i1, i2, i3⟩ := I
  have bx := i1 x hx
  have by' := i1 y hy
  have core : ∀ k h, k < h → h < cnt → g k = k → g h = h → (∀ u, fu_Cg cnt c v n m u → u h = u k) → fu_Y cnt c v n m (fun p => fu_rn h k (g p)) ∧ fu_ld (fun p => fu_rn h k (g p)) cnt < fu_ld g cnt := by
    intro k h hk hh ek eh s2
    refine ⟨⟨fun p hp => ?_, fun p hp => ?_, fun u H p hp => ?_⟩, fu_ld_rn hh eh ek (by omega)⟩
    · have h1 := i1 p hp
      show fu_rn h k (g p) ≤ p ∧ fu_rn h k (g (fu_rn h k (g p))) = fu_rn h k (g p)
      by_cases z : g p = h
      · rw [z, fu_rn_g, ek, fu_rn_n (by omega)]
        exact ⟨by omega, rfl⟩
      · rw [fu_rn_n z, h1.2, fu_rn_n z]
        exact ⟨h1.1, rfl⟩
    · show fu_rn h k (g (c p)) = fu_rn h k (g p)
      rw [i2 p hp]
    · show u (fu_rn h k (g p)) = u p
      rw [fu_rn_h (s2 u H), i3 u H p hp]
  have sg : ∀ u, fu_Cg cnt c v n m u → u (g x) = u (g y) := by
    intro u H
    rw [i3 u H x hx, i3 u H y hy, s u H]
  unfold fu_un
  rcases fu_hl (g x) (g y) with h | h | h
  · rw [h.2.1, h.2.2]
    have k := core (g x) (g y) h.1 (by omega) bx.2 by'.2 (fun u H => (sg u H).symm)
    exact ⟨k.1, fun _ => k.2⟩
  · rw [h.2.1, h.2.2]
    have k := core (g y) (g x) h.1 (by omega) by'.2 bx.2 sg
    exact ⟨k.1, fun _ => k.2⟩
  · have e : (fun p => fu_rn (fu_hi (g x) (g y)) (fu_lw (g x) (g y)) (g p)) = g := by
      funext p
      exact fu_un_e h.1 p
    rw [e]
    exact ⟨⟨i1, i2, i3⟩, fun z => absurd h.1 z⟩
theorem fu_Y_cg {g g2 : Nat → Nat} (I : fu_Y cnt c v n m g) (W : ∀ p, p < cnt → c p ≤ p) (h : ∀ p, p < cnt → g2 p = g p) : fu_Y cnt c v n m g2 := by
  obtain ⟨i1, i2, i3⟩ := I
  refine ⟨fun p hp => ?_, fun p hp => ?_, fun u H p hp => ?_⟩
  · have := i1 p hp
    rw [h p hp, h (g p) (by omega)]
    exact this
  · have := W p hp
    rw [h p hp, h (c p) (by omega)]
    exact i2 p hp
  · rw [h p hp]
    exact i3 u H p hp
/-- what one round of Y does to g0; D: the places that it has looked at -/
def fu_R (cnt : Nat) (c : Nat → Nat) (v : Nat → Nat → Option Nat) (n m : Nat) (g0 g : Nat → Nat) (b : Bool) (D : Nat → Nat → Nat → Prop) : Prop :=
  fu_Y cnt c v n m g ∧ (∀ p, p < cnt → g (g0 p) = g p) ∧ (b = true → fu_ld g cnt < fu_ld g0 cnt) ∧
  (b = false → (∀ p, p < cnt → g p = g0 p) ∧ ∀ p q f d e, D p q f → p < cnt → q < cnt → f < 3 → c p = p → c q = q → g0 p = g0 q → v p f = some d → v q f = some e → g0 d = g0 e)
theorem fu_R0 {g : Nat → Nat} (I : fu_Y cnt c v n m g) : fu_R cnt c v n m g g false (fun _ _ _ => False) :=
  ⟨I, fun p hp => (I.1 p hp).2, fun z => absurd z (by decide), fun _ => ⟨fun _ _ => rfl, fun _ _ _ _ _ z => z.elim⟩⟩
theorem fu_R_D {g0 g : Nat → Nat} {b : Bool} {D D2 : Nat → Nat → Nat → Prop} (I : fu_R cnt c v n m g0 g b D) (h : b = false → ∀ p q f, D2 p q f → p < cnt → q < cnt → f < 3 → c p = p → c q = q → g p = g q → ∀ d e, v p f = some d → v q f = some e → D p q f ∨ g d = g e) (W : fu_WF cnt c t v) : fu_R cnt c v n m g0 g b D2 := by
  refine ⟨I.1, I.2.1, I.2.2.1, fun hb => ⟨(I.2.2.2 hb).1, fun p q f d e hD hp hq hf ep eq epq hd he => ?_⟩⟩
  have k := I.2.2.2 hb
  have wd := W.2.2.2 p f d hp ep hf hd
  have we := W.2.2.2 q f e hq eq hf he
  rcases h hb p q f hD hp hq hf ep eq (by rw [k.1 p hp, k.1 q hq, epq]) d e hd he with x | x
  · exact k.2 p q f d e x hp hq hf ep eq epq hd he
  · rw [← k.1 d wd.1, ← k.1 e we.1, x]
theorem fu_ld_cg {g g2 : Nat → Nat} (h : ∀ p, p < cnt → g p = g2 p) : fu_ld g cnt = fu_ld g2 cnt :=
  fu_cd_cg cnt (fun p hp => by show decide (g p = p) = decide (g2 p = p); rw [h p hp])
theorem fu_R_le {g0 g : Nat → Nat} {b : Bool} {D : Nat → Nat → Nat → Prop} (I : fu_R cnt c v n m g0 g b D) : fu_ld g cnt ≤ fu_ld g0 cnt := by
  cases b with
  | true => exact Nat.le_of_lt (I.2.2.1 rfl)
  | false => exact Nat.le_of_eq (fu_ld_cg (I.2.2.2 rfl).1)
/-- one after the other -/
theorem fu_R_c {g0 g g' : Nat → Nat} {b b' : Bool} {D D' : Nat → Nat → Nat → Prop} (W : fu_WF cnt c t v) (I0 : fu_Y cnt c v n m g0) (I : fu_R cnt c v n m g0 g b D) (J : fu_R cnt c v n m g g' b' D') : fu_R cnt c v n m g0 g' (b || b') (fun p q f => D p q f ∨ D' p q f) := by
  refine ⟨J.1, fun p hp => ?_, fun hb => ?_, fun hb => ?_⟩
  · have h0 := (I0.1 p hp).1
    rw [← J.2.1 (g0 p) (by omega), I.2.1 p hp, J.2.1 p hp]
  · have h1 := fu_R_le I
    have h2 := fu_R_le J
    rw [Bool.or_eq_true] at hb
    rcases hb with hb | hb
    · have := I.2.2.1 hb
      omega
    · have := J.2.2.1 hb
      omega
  · rw [Bool.or_eq_false_iff] at hb
    have k1 := I.2.2.2 hb.1
    have k2 := J.2.2.2 hb.2
    refine ⟨fun p hp => by rw [k2.1 p hp, k1.1 p hp], fun p q f d e hD hp hq hf ep eq epq hd he => ?_⟩
    rcases hD with hD | hD
    · exact k1.2 p q f d e hD hp hq hf ep eq epq hd he
    · have wd := W.2.2.2 p f d hp ep hf hd
      have we := W.2.2.2 q f e hq eq hf he
      have := k2.2 p q f d e hD hp hq hf ep eq (by rw [k1.1 p hp, k1.1 q hq, epq]) hd he
      rw [k1.1 d wd.1, k1.1 e we.1] at this
      exact this
/-- a forced merge -/
theorem fu_R_u {g : Nat → Nat} {x y : Nat} {D : Nat → Nat → Nat → Prop} (I : fu_Y cnt c v n m g) (hx : x < cnt) (hy : y < cnt) (s : ∀ h, fu_Cg cnt c v n m h → h x = h y)
    (hD : ∀ p q f d e, D p q f → v p f = some d → v q f = some e → d = x ∧ e = y) : fu_R cnt c v n m g (fu_un g x y) (!decide (g x = g y)) D := by
  have k := fu_Y_un I hx hy s
  refine ⟨k.1, fun p hp => ?_, fun hb => k.2 ?_, fun hb => ?_⟩
  · unfold fu_un
    rw [(I.1 p hp).2]
  · intro e
    rw [decide_eq_true e] at hb
    exact absurd hb (by decide)
  · have e : g x = g y := by
      refine Classical.byContradiction fun z => ?_
      rw [decide_eq_false z] at hb
      exact absurd hb (by decide)
    refine ⟨fun p hp => fu_un_e e p, fun p q f d e2 hd _ _ _ _ _ _ h1 h2 => ?_⟩
    have := hD p q f d e2 hd h1 h2
    rw [this.1, this.2, e]
theorem fu_Yf {g : Nat → Nat} (W : fu_WF cnt c t v) (I : fu_Y cnt c v n m g) (e : g n = g m)
    (D : ∀ p q f d e, q < p → p < cnt → f < 3 → c p = p → c q = q → g p = g q → v p f = some d → v q f = some e → g d = g e) : fu_Lc cnt c v n m g := by
  obtain ⟨i1, i2, i3⟩ := I
  refine ⟨i1, ⟨i2, e, fun p q f d e hp hq hf ep eq epq hd he => ?_⟩, i3⟩
  rcases Nat.lt_trichotomy p q with z | z | z
  · exact (D q p f e d z hq hf eq ep epq.symm he hd).symm
  · subst z
    rw [hd] at he
    cases he
    rfl
  · exact D p q f d e z hp hf ep eq epq hd he
theorem fu_Y0c (W : fu_WF cnt c t v) (p q f d e : Nat) (hq : q < p) (hp : p < cnt) (hf : f < 3) (ep : c p = p) (eq : c q = q) (h : c p = c q) (hd : v p f = some d) (he : v q f = some e) : c d = c e := by omega
/-! the lower types of a merged set -/
def fu_Lo (cnt : Nat) (c t : Nat → Nat) (lo : Nat → Int32) (g : Nat → Nat) (x : Nat) (s : Int32) : Prop :=
  ∀ i, bt s i = true ↔ i < 8 ∧ ∀ q, q < cnt → g q = x → bt (lo (t (c q))) i = true
theorem fu_Bad_0 {g : Nat → Nat} (B : fu_Bad cnt c t v lo n m) (G : fu_Lc cnt c v n m g) : ∃ p, p < cnt ∧ ∀ s, fu_Lo cnt c t lo g (g p) s → s = 0 := by
  obtain ⟨a, ha, H⟩ := B
  refine ⟨a, ha, fun s S => fu_nz.mpr fun i => ?_⟩
  obtain ⟨p, hp, e, hb⟩ := H g G.2.1 i
  cases z : bt s i with
  | false => rfl
  | true =>
    have := ((S i).mp z).2 p hp e
    rw [this] at hb
    exact absurd hb (by decide)
section
variable {c1 t1 : Nat → Nat} {v1 : Nat → Nat → Option Nat} {L R : Nat → Nat} {a pc : Nat} {g : Nat → Nat}
theorem fu_t_lo (P : fu_Pre lo) (I : fu_X cnt c t v lo n m c1 t1 v1 L R a pc) (E : ∀ p, p < cnt → g p = c1 p) {p : Nat} (hp : p < cnt) (ep : c1 p = p) {s : Int32} (S : fu_Lo cnt c t lo g p s) : s = lo (t1 p) := by
  have i8 := I.2.2.2.2.2.2.2.1 p hp ep
  refine b_ext fun i _ => ?_
  have k : bt s i = true ↔ bt (lo (t1 p)) i = true := by
    rw [S i, i8.2 i]
    refine ⟨fun h q hq eq => h.2 q hq ?_, fun h => ⟨P.1 _ i i8.1 ((i8.2 i).mpr h), fun q hq eq => h q hq ?_⟩⟩
    · rw [E q hq, eq]
    · rw [← E q hq, eq]
  cases x : bt s i with
  | true => exact (k.mp x).symm
  | false =>
    cases y : bt (lo (t1 p)) i with
    | true =>
      rw [k.mpr y] at x
      exact absurd x (by decide)
    | false => rfl
theorem fu_t_nz (P : fu_Pre lo) (I : fu_X cnt c t v lo n m c1 t1 v1 L R a pc) (E : ∀ p, p < cnt → g p = c1 p) {p : Nat} (hp : p < cnt) {s : Int32} (S : fu_Lo cnt c t lo g (g p) s) : s ≠ 0 := by
  have i1 := I.1 p hp
  rw [E p hp] at S
  have e := fu_t_lo P I E (by omega) i1.2 S
  have i8 := I.2.2.2.2.2.2.2.1 (c1 p) (by omega) i1.2
  intro z
  have := P.2.1 _ i8.1
  rw [← e, z, b_0] at this
  exact absurd this (by decide)
/-- what Y's search for a value finds -/
def fu_Vs (cnt : Nat) (c : Nat → Nat) (v : Nat → Nat → Option Nat) (g : Nat → Nat) (x f : Nat) (o : Option Nat) : Prop :=
  (o = none ∧ ∀ p, p < cnt → g p = x → v (c p) f = none) ∨ ∃ p e, p < cnt ∧ g p = x ∧ v (c p) f = some e ∧ o = some (g e)
theorem fu_v_s (W : fu_WF cnt c t v) (I : fu_X cnt c t v lo n m c1 t1 v1 L R a pc) (ha : pc ≤ a) (E : ∀ p, p < cnt → g p = c1 p) {p f : Nat} (hp : p < cnt) (ep : c1 p = p) (hf : f < 3) {o : Option Nat} (S : fu_Vs cnt c v g p f o) : o = v1 p f := by
  obtain ⟨w1, w2, w3, w4⟩ := W
  obtain ⟨i1, i2, i3, i4, i5, i6, i7, i8, i9⟩ := I
  have K : fu_Cp cnt c1 L R a pc c1 := ⟨fun q hq => (i1 q hq).2, fun i h1 h2 => by omega⟩
  rcases S with ⟨e, h⟩ | ⟨q, e, hq, eq, hv, eo⟩
  · rw [e]
    cases z : v1 p f with
    | none => rfl
    | some d =>
      obtain ⟨_, _, q, e2, hq, ec, e1, hv, _⟩ := i5 p f d hp ep hf z
      have := h q hq (by rw [E q hq, e1])
      rw [ec, hv] at this
      exact nomatch this
  · have wq := w2 q hq
    have hcq : c q < cnt := by omega
    obtain ⟨d, hd, hh⟩ := i6 (c q) f e hcq wq.2 hf hv
    rw [i2 q hq, ← E q hq, eq] at hd
    have k := w4 (c q) f e hcq wq.2 hf hv
    have k2 := i5 p f d hp ep hf hd
    rw [eo, hd, E e k.1, hh c1 K, k2.2.1]
end
end
end
section
/-! what can be come to -/
def fu_Rc (v : Nat → Nat → Option Nat) (s0 i : Nat) : Prop :=
  ∀ S : Nat → Prop, S s0 → (∀ p f d, S p → f < 3 → v p f = some d → S d) → S i
/-- a set on the way -/
def fu_Rs (cnt : Nat) (c : Nat → Nat) (v : Nat → Nat → Option Nat) (s0 : Nat) (s : Int32) : Prop :=
  bt s s0 = true ∧ (∀ i, bt s i = true → i < cnt ∧ c i = i ∧ fu_Rc v s0 i)
def fu_Rd (v : Nat → Nat → Option Nat) (s : Int32) : Prop := ∀ p f d, bt s p = true → f < 3 → v p f = some d → bt s d = true
section
variable {cnt : Nat} {c t : Nat → Nat} {v : Nat → Nat → Option Nat} {s0 : Nat}
theorem fu_Rs_in {s : Int32} (D : fu_Rd v s) (h0 : bt s s0 = true) {i : Nat} (h : fu_Rc v s0 i) : bt s i = true :=
  h (fun x => bt s x = true) h0 D
theorem fu_Rs_eq {s s' : Int32} (I : fu_Rs cnt c v s0 s) (I' : fu_Rs cnt c v s0 s') (D : fu_Rd v s) (D' : fu_Rd v s') : s = s' := by
  refine b_ext fun i _ => ?_
  cases x : bt s i with
  | true => exact (fu_Rs_in D' I'.1 (I.2 i x).2.2).symm
  | false =>
    cases y : bt s' i with
    | true =>
      rw [fu_Rs_in D I.1 (I'.2 i y).2.2] at x
      exact absurd x (by decide)
    | false => rfl
def fu_Rk (v : Nat → Nat → Option Nat) (cnt : Nat) (s : Int32) (k : Nat) : Prop := fu_Rd v s ∨ k + 1 ≤ fu_cd (bt s) cnt
theorem fu_Rk0 {s : Int32} (I : fu_Rs cnt c v s0 s) : fu_Rk v cnt s 0 := Or.inr (fu_cd_1 (I.2 s0 I.1).1 I.1)
theorem fu_Rks {s s' : Int32} {k : Nat} (I : fu_Rs cnt c v s0 s) (I' : fu_Rs cnt c v s0 s') (G : ∀ i, bt s i = true → bt s' i = true)
    (A : ∀ p f d, bt s p = true → f < 3 → v p f = some d → bt s' d = true) (K : fu_Rk v cnt s k) : fu_Rk v cnt s' (k + 1) := by
  have same : (∀ i, bt s' i = true → bt s i = true) → fu_Rd v s' := fun h p f d hp hf hv => A p f d (h p hp) hf hv
  rcases K with D | K
  · exact Or.inl (same fun i hi => fu_Rs_in D I.1 (I'.2 i hi).2.2)
  · by_cases z : ∀ i, bt s' i = true → bt s i = true
    · exact Or.inl (same z)
    · refine Or.inr ?_
      have z2 : ∃ i, bt s' i = true ∧ bt s i = false := by
        refine Classical.byContradiction fun y => z fun i hi => ?_
        cases x : bt s i with
        | true => rfl
        | false => exact absurd ⟨i, hi, x⟩ y
      obtain ⟨i, h1, h2⟩ := z2
      have := fu_cd_lt cnt (fun i _ h => G i h) i (I'.2 i h1).1 h2 h1
      omega
theorem fu_Rke {s : Int32} {k : Nat} (K : fu_Rk v cnt s k) (h : cnt ≤ k) : fu_Rd v s := by
  rcases K with D | K
  · exact D
  · have := fu_cd_le (bt s) cnt
    omega
theorem fu_Rs0 (W : fu_WF cnt c t v) {x : Nat} (hx : x < cnt) (e : c x = x) : fu_Rs cnt c v x ((1 : Int32) <<< (nI x &&& 31)) := by
  have w1 := W.1
  refine ⟨by rw [fu_one (by omega) (by omega), decide_eq_true rfl], fun i hi => ?_⟩
  rw [fu_one (by omega) (fu_lt hi), decide_eq_true_iff] at hi
  subst hi
  exact ⟨hx, e, fun S h _ => h⟩
theorem fu_Rsa (W : fu_WF cnt c t v) {s w : Int32} {p f d : Nat} (I : fu_Rs cnt c v s0 s) (J : fu_Rs cnt c v s0 w) (hp : bt s p = true) (hf : f < 3) (hv : v p f = some d) : fu_Rs cnt c v s0 (w ||| ((1 : Int32) <<< (nI d &&& 31))) ∧ d < cnt ∧ (∀ i, bt w i = true → bt (w ||| ((1 : Int32) <<< (nI d &&& 31))) i = true) ∧ bt (w ||| ((1 : Int32) <<< (nI d &&& 31))) d = true := by
  have w1 := W.1
  have k := I.2 p hp
  have kd := W.2.2.2 p f d k.1 k.2.1 hf hv
  have mono : ∀ i, bt w i = true → bt (w ||| ((1 : Int32) <<< (nI d &&& 31))) i = true := fun i h => by rw [b_or, h]; rfl
  refine ⟨⟨mono s0 J.1, fun i hi => ?_⟩, kd.1, mono, ?_⟩
  · have h32 := fu_lt hi
    rw [b_or, Bool.or_eq_true] at hi
    rcases hi with hi | hi
    · exact J.2 i hi
    · rw [fu_one (by omega) h32, decide_eq_true_iff] at hi
      subst hi
      exact ⟨kd.1, kd.2, fun S a b => b p f i (k.2.2 S a b) hf hv⟩
  · rw [b_or, fu_one (by omega) (by omega), decide_eq_true rfl, Bool.or_true]
end
/-! comparison -/
def fu_s1 (v : Nat → Nat → Option Nat) (p h f : Nat) (im : Nat → Option Nat) : Option (Nat → Option Nat) :=
  match v p f with
  | none => some im
  | some d => match v h f with
    | none => none
    | some e => if im d = none ∨ im d = some e then some (fun x => if x = d then some e else im x) else none
def fu_s3 (v : Nat → Nat → Option Nat) (p h : Nat) : Nat → Nat → (Nat → Option Nat) → Option (Nat → Option Nat)
  | 0, _, im => some im
  | k + 1, f, im => match fu_s1 v p h f im with
    | none => none
    | some im' => fu_s3 v p h k (f + 1) im'
def fu_sp (lo : Nat → Int32) (t : Nat → Nat) (v : Nat → Nat → Option Nat) (p : Nat) (im : Nat → Option Nat) : Option (Nat → Option Nat) :=
  match im p with
  | none => some im
  | some h => if bt (lo (t p)) (t h) = true then fu_s3 v p h 3 0 im else none
def fu_sr (lo : Nat → Int32) (t : Nat → Nat) (v : Nat → Nat → Option Nat) : Nat → Nat → (Nat → Option Nat) → Option (Nat → Option Nat)
  | 0, _, im => some im
  | k + 1, p, im => match fu_sp lo t v p im with
    | none => none
    | some im' => fu_sr lo t v k (p + 1) im'
def fu_it (F : (Nat → Option Nat) → Option (Nat → Option Nat)) : Nat → (Nat → Option Nat) → Option (Nat → Option Nat)
  | 0, s => some s
  | k + 1, s => match F s with
    | none => none
    | some s' => fu_it F k s'
theorem fu_it_add (F : (Nat → Option Nat) → Option (Nat → Option Nat)) : ∀ a b s, fu_it F (a + b) s = match fu_it F a s with
    | none => none
    | some s' => fu_it F b s' := by
  intro a b
  induction a with
  | zero => intro s; rw [Nat.zero_add]; rfl
  | succ a ih =>
    intro s
    rw [Nat.succ_add]
    show (match F s with | none => none | some s' => fu_it F (a + b) s') = match (match F s with | none => none | some s' => fu_it F a s') with | none => none | some s' => fu_it F b s'
    cases F s with
    | none => rfl
    | some s' => exact ih s'
theorem fu_it_fix {F : (Nat → Option Nat) → Option (Nat → Option Nat)} {s : Nat → Option Nat} (h : F s = some s) : ∀ k, fu_it F k s = some s := by
  intro k
  induction k with
  | zero => rfl
  | succ k ih =>
    show (match F s with | none => none | some s' => fu_it F k s') = some s
    rw [h]
    exact ih
/-- images of leaders are leaders -/
def fu_Im (cnt : Nat) (c : Nat → Nat) (im : Nat → Option Nat) : Prop := ∀ p h, im p = some h → p < cnt ∧ c p = p ∧ h < cnt ∧ c h = h
/-- a step adds, and changes nothing -/
def fu_Ad (im im' : Nat → Option Nat) : Prop := ∀ x h, im x = some h → im' x = some h
section
variable {cnt : Nat} {c t : Nat → Nat} {v : Nat → Nat → Option Nat} {lo : Nat → Int32}
theorem fu_s1_ok (W : fu_WF cnt c t v) {p h f : Nat} {im im' : Nat → Option Nat} (I : fu_Im cnt c im) (hp : p < cnt) (ep : c p = p) (hh : h < cnt) (eh : c h = h) (hf : f < 3) (e : fu_s1 v p h f im = some im') : fu_Im cnt c im' ∧ fu_Ad im im' := by
  unfold fu_s1 at e
  cases x : v p f with
  | none =>
    rw [x] at e
    cases e
    exact ⟨I, fun _ _ z => z⟩
  | some d =>
    rw [x] at e
    cases y : v h f with
    | none =>
      rw [y] at e
      exact nomatch e
    | some q =>
      rw [y] at e
      have e : (if im d = none ∨ im d = some q then some (fun x => if x = d then some q else im x) else none) = some im' := e
      by_cases z : im d = none ∨ im d = some q
      · rw [if_pos z] at e
        cases e
        have kd := W.2.2.2 p f d hp ep hf x
        have kq := W.2.2.2 h f q hh eh hf y
        refine ⟨fun a b hab => ?_, fun a b hab => ?_⟩
        · have hab : (if a = d then some q else im a) = some b := hab
          by_cases u : a = d
          · rw [if_pos u] at hab
            cases hab
            rw [u]
            exact ⟨kd.1, kd.2, kq.1, kq.2⟩
          · rw [if_neg u] at hab
            exact I a b hab
        · show (if a = d then some q else im a) = some b
          by_cases u : a = d
          · rw [if_pos u]
            subst u
            rcases z with z | z
            · rw [z] at hab; exact nomatch hab
            · rw [z] at hab; exact hab
          · rw [if_neg u]
            exact hab
      · rw [if_neg z] at e
        exact nomatch e
theorem fu_s3_ok (W : fu_WF cnt c t v) {p h : Nat} (hp : p < cnt) (ep : c p = p) (hh : h < cnt) (eh : c h = h) : ∀ k f im im', f + k = 3 → fu_Im cnt c im → fu_s3 v p h k f im = some im' → fu_Im cnt c im' ∧ fu_Ad im im' := by
  intro k
  induction k with
  | zero =>
    intro f im im' _ I e
    cases e
    exact ⟨I, fun _ _ z => z⟩
  | succ k ih =>
    intro f im im' hf I e
    have e : (match fu_s1 v p h f im with | none => none | some im2 => fu_s3 v p h k (f + 1) im2) = some im' := e
    cases x : fu_s1 v p h f im with
    | none => rw [x] at e; exact nomatch e
    | some im2 =>
      rw [x] at e
      have h1 := fu_s1_ok W I hp ep hh eh (by omega) x
      have h2 := ih (f + 1) im2 im' (by omega) h1.1 e
      exact ⟨h2.1, fun a b z => h2.2 a b (h1.2 a b z)⟩
theorem fu_sp_ok (W : fu_WF cnt c t v) {p : Nat} {im im' : Nat → Option Nat} (I : fu_Im cnt c im) (e : fu_sp lo t v p im = some im') : fu_Im cnt c im' ∧ fu_Ad im im' := by
  unfold fu_sp at e
  cases x : im p with
  | none =>
    rw [x] at e
    cases e
    exact ⟨I, fun _ _ z => z⟩
  | some h =>
    rw [x] at e
    have e : (if bt (lo (t p)) (t h) = true then fu_s3 v p h 3 0 im else none) = some im' := e
    have k := I p h x
    by_cases z : bt (lo (t p)) (t h) = true
    · rw [if_pos z] at e
      exact fu_s3_ok W k.1 k.2.1 k.2.2.1 k.2.2.2 3 0 im im' rfl I e
    · rw [if_neg z] at e
      exact nomatch e
theorem fu_sr_ok (W : fu_WF cnt c t v) : ∀ k p im im', fu_Im cnt c im → fu_sr lo t v k p im = some im' → fu_Im cnt c im' ∧ fu_Ad im im' := by
  intro k
  induction k with
  | zero =>
    intro p im im' I e
    cases e
    exact ⟨I, fun _ _ z => z⟩
  | succ k ih =>
    intro p im im' I e
    have e : (match fu_sp lo t v p im with | none => none | some im2 => fu_sr lo t v k (p + 1) im2) = some im' := e
    cases x : fu_sp lo t v p im with
    | none => rw [x] at e; exact nomatch e
    | some im2 =>
      rw [x] at e
      have h1 := fu_sp_ok W I x
      have h2 := ih (p + 1) im2 im' h1.1 e
      exact ⟨h2.1, fun a b z => h2.2 a b (h1.2 a b z)⟩
def fu_mu (cnt : Nat) (im : Nat → Option Nat) : Nat := fu_cd (fun p => (im p).isSome) cnt
theorem fu_mu_lt {im im' : Nat → Option Nat} (I' : fu_Im cnt c im') (A : fu_Ad im im') (n : im' ≠ im) : fu_mu cnt im < fu_mu cnt im' := by
  have z : ∃ x h, im x = none ∧ im' x = some h := by
    refine Classical.byContradiction fun y => n (funext fun x => ?_)
    cases a : im x with
    | some h => exact A x h a
    | none =>
      cases b : im' x with
      | none => rfl
      | some h => exact absurd ⟨x, h, a, b⟩ y
  obtain ⟨x, h, a, b⟩ := z
  refine fu_cd_lt cnt (fun i _ hi => ?_) x (I' x h b).1 ?_ ?_
  · have hi : (im i).isSome = true := hi
    show (im' i).isSome = true
    cases u : im i with
    | none => rw [u] at hi; exact absurd hi (by decide)
    | some w => rw [A i w u]; rfl
  · show (im x).isSome = false
    rw [a]; rfl
  · show (im' x).isSome = true
    rw [b]; rfl
theorem fu_it_gr (W : fu_WF cnt c t v) : ∀ k im im', fu_Im cnt c im → fu_it (fu_sr lo t v cnt 0) k im = some im' → fu_Im cnt c im' ∧ (fu_sr lo t v cnt 0 im' = some im' ∨ fu_mu cnt im + k ≤ fu_mu cnt im') := by
  intro k
  induction k with
  | zero =>
    intro im im' I e
    cases e
    exact ⟨I, Or.inr (Nat.le_refl _)⟩
  | succ k ih =>
    intro im im' I e
    have e : (match fu_sr lo t v cnt 0 im with | none => none | some s' => fu_it (fu_sr lo t v cnt 0) k s') = some im' := e
    cases x : fu_sr lo t v cnt 0 im with
    | none => rw [x] at e; exact nomatch e
    | some im2 =>
      rw [x] at e
      have e : fu_it (fu_sr lo t v cnt 0) k im2 = some im' := e
      have h1 := fu_sr_ok W cnt 0 im im2 I x
      have h2 := ih im2 im' h1.1 e
      refine ⟨h2.1, ?_⟩
      by_cases z : im2 = im
      · rw [z] at x e
        rw [fu_it_fix x k] at e
        cases e
        exact Or.inl x
      · have h3 := fu_mu_lt h1.1 h1.2 z
        rcases h2.2 with y | y
        · exact Or.inl y
        · exact Or.inr (by omega)
/-- nodeCount rounds say what 16 say -/
theorem fu_it_16 (W : fu_WF cnt c t v) {im : Nat → Option Nat} (I : fu_Im cnt c im) {p h : Nat} (hp : im p = some h) : (fu_it (fu_sr lo t v cnt 0) cnt im).isSome = (fu_it (fu_sr lo t v cnt 0) 16 im).isSome := by
  have w1 := W.1
  have e : 16 = cnt + (16 - cnt) := by omega
  rw [e, fu_it_add]
  cases x : fu_it (fu_sr lo t v cnt 0) cnt im with
  | none => rfl
  | some im' =>
    have k := fu_it_gr W cnt im im' I x
    rcases k.2 with y | y
    · show true = (fu_it (fu_sr lo t v cnt 0) (16 - cnt) im').isSome
      rw [fu_it_fix y]
      rfl
    · have h1 : 1 ≤ fu_mu cnt im := by
        refine fu_cd_1 (I p h hp).1 ?_
        show (im p).isSome = true
        rw [hp]; rfl
      have h2 := fu_cd_le (fun p => (im' p).isSome) cnt
      unfold fu_mu at y h1
      omega
end
end
section
/-! arrays that loops write -/
def fu_mp (F : Nat → Int32 → Int32) (i e : Nat) (A : Nat → Int32) : Nat → Int32 := fun j => if i ≤ j ∧ j < e then F j (A j) else A j
theorem fu_mp_e {F : Nat → Int32 → Int32} {i e : Nat} {A : Nat → Int32} (h : e ≤ i) : fu_mp F i e A = A := funext fun j => if_neg (by omega)
theorem fu_mp_s {F : Nat → Int32 → Int32} {i e : Nat} {A : Nat → Int32} (h : i < e) : fu_mp F (i + 1) e (upd A i (F i (A i))) = fu_mp F i e A := by
  funext j
  unfold fu_mp upd
  by_cases z : j = i
  · subst z
    rw [if_neg (by omega), if_pos rfl, if_pos (by omega)]
  · rw [if_neg z]
    by_cases y : i ≤ j ∧ j < e
    · rw [if_pos y, if_pos (by omega)]
    · rw [if_neg y, if_neg (by omega)]
theorem fu_mp_k {F : Nat → Int32 → Int32} {i e : Nat} {A : Nat → Int32} (k : F i (A i) = A i) : fu_mp F (i + 1) e A = fu_mp F i e A := by
  funext j
  unfold fu_mp
  by_cases z : j = i
  · subst z
    rw [if_neg (by omega)]
    by_cases y : j ≤ j ∧ j < e
    · rw [if_pos y, k]
    · rw [if_neg y]
  · by_cases y : i ≤ j ∧ j < e
    · rw [if_pos y, if_pos (by omega)]
    · rw [if_neg y, if_neg (by omega)]
theorem fu_mp_in {F : Nat → Int32 → Int32} {i e : Nat} {A : Nat → Int32} {j : Nat} (h : i ≤ j) (h2 : j < e) : fu_mp F i e A j = F j (A j) := if_pos ⟨h, h2⟩
theorem fu_mp_out {F : Nat → Int32 → Int32} {i e : Nat} {A : Nat → Int32} {j : Nat} (h : j < i ∨ e ≤ j) : fu_mp F i e A j = A j := if_neg (by omega)
theorem fu_8 : nI 8 = 8 := by decide +kernel
theorem fu_16 : nI 16 = 16 := by decide +kernel
theorem fu_3 : nI 3 = 3 := by decide +kernel
theorem fu_48 : nI 48 = 48 := by decide +kernel
theorem fu_81 : nI 81 = 81 := by decide +kernel
theorem fu_32 : nI 32 = 32 := by decide +kernel
theorem fu_80 : nI 80 = 80 := by decide +kernel
theorem fu_x3 (a : Nat) : nI a * 3 = nI (a * 3) := by rw [← fu_3, pk_mul]
theorem fu_x16 (a : Nat) : nI a * 16 = nI (a * 16) := by rw [← fu_16, pk_mul]
theorem fu_x48 (a : Nat) : nI a * 48 = nI (a * 48) := by rw [← fu_48, pk_mul]
theorem fu_3x (a : Nat) : 3 * nI a = nI (3 * a) := by rw [← fu_3, pk_mul]
theorem fu_81x (a : Nat) : 81 * nI a = nI (81 * a) := by rw [← fu_81, pk_mul]
theorem fu_a1 (a f : Nat) : nI a * 3 + nI f = nI (3 * a + f) := by rw [fu_x3, nI_add, Nat.mul_comm]
theorem fu_a2 (a f : Nat) : 3 * nI a + nI f = nI (3 * a + f) := by rw [fu_3x, nI_add]
theorem fu_a3 (a f : Nat) : nI a * 16 + nI f = nI (a * 16 + f) := by rw [fu_x16, nI_add]
theorem fu_a4 (a f : Nat) : nI a * 48 + nI f = nI (a * 48 + f) := by rw [fu_x48, nI_add]
theorem fu_d3 {a : Nat} (h : a < 2 ^ 31) : nI a / 3 = nI (a / 3) := by rw [← fu_3, pk_div h (by decide) (by decide)]
theorem fu_r3 {a : Nat} (h : a < 2 ^ 31) : nI a - nI a / 3 * 3 = nI (a % 3) := by rw [← fu_3, pk_rem h (by decide) (by decide)]
theorem fu_n3 : ¬ (3 : Int32) = 0 := by decide
theorem fu_nb (b : Bool) : narrow .boolean (.int (fu_b b)) = .int (fu_b b) := by cases b <;> rfl
end
section
/-! X: small methods -/
section
variable {nC mC pC : Int32} {LT TL CA TA VA SN SC ST SV PL PR IM : Nat → Int32}
theorem fx_ty_n {post : Int32 → Prop} {x : Int32} (h : x < 0 ∨ nI 8 ≤ x) (k : post 0) : wpX_isType post x := by
  unfold wpX_isType
  by_cases z : x < 0
  · exact br_t z k
  · exact br_f z (br_t (h.resolve_left z) k)
theorem fx_ty_y {post : Int32 → Prop} {j : Nat} (h : j < 8) (k : post 1) : wpX_isType post (nI j) := by
  unfold wpX_isType
  exact br_f (nI_pos (by omega)) (br_f (nI_ge (b := 8) h (by decide)) k)
theorem fx_fe_n {post : Int32 → Prop} {x : Int32} (h : x < 0 ∨ nI 3 ≤ x) (k : post 0) : wpX_isFeature post x := by
  unfold wpX_isFeature
  by_cases z : x < 0
  · exact br_t z k
  · exact br_f z (br_t (h.resolve_left z) k)
theorem fx_fe_y {post : Int32 → Prop} {j : Nat} (h : j < 3) (k : post 1) : wpX_isFeature post (nI j) := by
  unfold wpX_isFeature
  exact br_f (nI_pos (by omega)) (br_f (nI_ge (b := 3) h (by decide)) k)
theorem fx_no_n {post : Int32 → Prop} {x : Int32} (h : x < 0 ∨ nC ≤ x) (k : post 0) : wpX_isNode post (nC, mC, pC, LT, TL, CA, TA, VA, SN, SC, ST, SV, PL, PR, IM) x := by
  unfold wpX_isNode
  by_cases z : x < 0
  · exact br_t z k
  · exact br_f z (br_t (h.resolve_left z) k)
theorem fx_no_y {post : Int32 → Prop} {j cnt : Nat} (h : j < cnt) (hc : cnt ≤ 16) (k : post 1) : wpX_isNode post ((nI cnt), mC, pC, LT, TL, CA, TA, VA, SN, SC, ST, SV, PL, PR, IM) (nI j) := by
  unfold wpX_isNode
  exact br_f (nI_pos (by omega)) (br_f (nI_ge h (by omega)) k)
theorem fx_hb {post : Int32 → Prop} {x : Int32} {i : Nat} (hi : i < 32) (k : post (fu_b (bt x i))) : wpX_hasBit post x (nI i) := by
  unfold wpX_hasBit
  rw [fu_bit x hi]
  cases h : bt x i with
  | true =>
    rw [h] at k
    exact br_f (by decide) k
  | false =>
    rw [h] at k
    exact br_t rfl k
theorem fx_lu {post : Int32 → Prop} {a b : Nat} (ha : a < 8) (hb : b < 8) (k : post (fu_b (bt (LT b) a))) : wpX_liesUnder post (nC, mC, pC, LT, TL, CA, TA, VA, SN, SC, ST, SV, PL, PR, IM) (nI a) (nI b) := by
  unfold wpX_liesUnder
  refine ⟨vp_in_nI hb (by decide), ?_⟩
  rw [nI_clamp (show b < 2 ^ 31 by omega)]
  exact fx_hb (by omega) ⟨fu_nb _, k⟩
theorem fx_cb4 {post : Int32 → Prop} {x : Int32} (k : post (nI (fu_cd (bt x) 16))) : ∀ n i, 16 - i < n → i ≤ 16 → wX_countBits_4 post x n (nI (fu_cd (bt x) i)) (nI i) := by
  intro n
  induction n with
  | zero => intro i h; omega
  | succ n ih =>
    intro i h hi
    rw [wX_countBits_4]
    refine pk_le 16 i (fun z => ?_) (fun z => ?_)
    · have e : i = 16 := by omega
      subst e
      exact k
    · refine fx_hb (by omega) ?_
      have H := ih (i + 1) (by omega) (by omega)
      cases hb : bt x i with
      | true =>
        rw [fu_cd_t hb] at H
        exact br_f (by decide) (nm_r (nI_1 _) (nm_r (nI_1 _) H))
      | false =>
        rw [fu_cd_f hb] at H
        exact br_t rfl (nm_r (nI_1 _) H)
theorem fx_cb {post : Int32 → Prop} {x : Int32} (k : post (nI (fu_cd (bt x) 16))) : wpX_countBits post x := by
  unfold wpX_countBits
  exact ⟨17, fx_cb4 k 17 0 (by omega) (by omega)⟩
theorem fx_mi11 {post : Int32 → Prop} {x : Int32} : ∀ n d i, d < n → i + d = 8 → post (fu_sc (fun t => decide (LT t = x)) d i) → wX_meetIn__lowerTypes_11 post x nC mC pC LT TL CA TA VA SN SC ST SV PL PR IM n (nI i) := by
  intro n
  induction n with
  | zero => intro d i h; omega
  | succ n ih =>
    intro d i h hi k
    rw [wX_meetIn__lowerTypes_11]
    refine pk_le 8 i (fun z => ?_) (fun z => ?_)
    · have e : d = 0 := by omega
      subst e
      exact k
    · obtain ⟨d, rfl⟩ : ∃ e, d = e + 1 := ⟨d - 1, by omega⟩
      refine ⟨vp_in_nI z (by decide), ?_⟩
      rw [nI_clamp (show i < 2 ^ 31 by omega)]
      refine br_c (fun y => ?_) (fun y => nm_r (nI_1 i) ?_)
      · rw [fu_sc_t (decide_eq_true y)] at k
        exact k
      · rw [fu_sc_f (decide_eq_false y)] at k
        exact ih d (i + 1) (by omega) (by omega) k
theorem fx_mi {post : Int32 → Prop} {lo : Nat → Int32} {a b : Nat} (hl : ∀ t, t < 8 → LT t = lo t) (ha : a < 8) (hb : b < 8) (k : post (fu_mt lo a b)) : wpX_meetIn__lowerTypes post (nC, mC, pC, LT, TL, CA, TA, VA, SN, SC, ST, SV, PL, PR, IM) (nI a) (nI b) := by
  unfold wpX_meetIn__lowerTypes
  refine ⟨vp_in_nI ha (by decide), vp_in_nI hb (by decide), ?_⟩
  rw [nI_clamp (show a < 2 ^ 31 by omega), nI_clamp (show b < 2 ^ 31 by omega)]
  refine nm_e ⟨9, fx_mi11 9 8 0 (by omega) (by omega) ?_⟩
  have e : fu_sc (fun t => decide (LT t = LT a &&& LT b)) 8 0 = fu_mt lo a b := by
    rw [hl a ha, hl b hb]
    exact fu_sc_cg 8 0 fun t _ ht => by rw [hl t (by omega)]
  rw [e]
  exact k
theorem fx_mj11 {post : Int32 → Prop} {x : Int32} : ∀ n d i, d < n → i + d = 8 → post (fu_sc (fun t => decide (TL t = x)) d i) → wX_meetIn__triedLowerTypes_11 post x nC mC pC LT TL CA TA VA SN SC ST SV PL PR IM n (nI i) := by
  intro n
  induction n with
  | zero => intro d i h; omega
  | succ n ih =>
    intro d i h hi k
    rw [wX_meetIn__triedLowerTypes_11]
    refine pk_le 8 i (fun z => ?_) (fun z => ?_)
    · have e : d = 0 := by omega
      subst e
      exact k
    · obtain ⟨d, rfl⟩ : ∃ e, d = e + 1 := ⟨d - 1, by omega⟩
      refine ⟨vp_in_nI z (by decide), ?_⟩
      rw [nI_clamp (show i < 2 ^ 31 by omega)]
      refine br_c (fun y => ?_) (fun y => nm_r (nI_1 i) ?_)
      · rw [fu_sc_t (decide_eq_true y)] at k
        exact k
      · rw [fu_sc_f (decide_eq_false y)] at k
        exact ih d (i + 1) (by omega) (by omega) k
theorem fx_mj {post : Int32 → Prop} {lo : Nat → Int32} {a b : Nat} (hl : ∀ t, t < 8 → TL t = lo t) (ha : a < 8) (hb : b < 8) (k : post (fu_mt lo a b)) : wpX_meetIn__triedLowerTypes post (nC, mC, pC, LT, TL, CA, TA, VA, SN, SC, ST, SV, PL, PR, IM) (nI a) (nI b) := by
  unfold wpX_meetIn__triedLowerTypes
  refine ⟨vp_in_nI ha (by decide), vp_in_nI hb (by decide), ?_⟩
  rw [nI_clamp (show a < 2 ^ 31 by omega), nI_clamp (show b < 2 ^ 31 by omega)]
  refine nm_e ⟨9, fx_mj11 9 8 0 (by omega) (by omega) ?_⟩
  have e : fu_sc (fun t => decide (TL t = TL a &&& TL b)) 8 0 = fu_mt lo a b := by
    rw [hl a ha, hl b hb]
    exact fu_sc_cg 8 0 fun t _ ht => by rw [hl t (by omega)]
  rw [e]
  exact k
theorem fx_cc4 {post : Int32 → Prop} {cnt : Nat} {c : Nat → Nat} (hc : cnt ≤ 16) (hl : ∀ p, p < cnt → c p ≤ p) (hp : ∀ p, p < cnt → CA p = nI (c p)) (k : post (nI (fu_ld c cnt))) : ∀ n i, cnt - i < n → i ≤ cnt → wX_countClasses_4 post (nI cnt) mC pC LT TL CA TA VA SN SC ST SV PL PR IM n (nI (fu_ld c i)) (nI i) := by
  intro n
  induction n with
  | zero => intro i h; omega
  | succ n ih =>
    intro i h hi
    rw [wX_countClasses_4]
    refine pk_le cnt i (fun z => ?_) (fun z => ?_)
    · have e : i = cnt := by omega
      subst e
      exact k
    · refine ⟨vp_in_nI (by omega) (by decide), ?_⟩
      rw [nI_clamp (show i < 2 ^ 31 by omega), hp i z]
      have H := ih (i + 1) (by omega) (by omega)
      have hz := hl i z
      unfold fu_ld at H ⊢
      refine pk_eq (c i) i (fun y => ?_) (fun y => ?_)
      · rw [fu_cd_t (decide_eq_true y)] at H
        exact nm_r (nI_1 _) (nm_r (nI_1 _) H)
      · rw [fu_cd_f (decide_eq_false y)] at H
        exact nm_r (nI_1 _) H
theorem fx_cc {post : Int32 → Prop} {cnt : Nat} {c : Nat → Nat} (hc : cnt ≤ 16) (hl : ∀ p, p < cnt → c p ≤ p) (hp : ∀ p, p < cnt → CA p = nI (c p)) (k : post (nI (fu_ld c cnt))) : wpX_countClasses post ((nI cnt), mC, pC, LT, TL, CA, TA, VA, SN, SC, ST, SV, PL, PR, IM) := by
  unfold wpX_countClasses
  exact ⟨cnt + 1, fx_cc4 hc hl hp k (cnt + 1) 0 (by omega) (by omega)⟩
end
end
section
/-! X: save, restore, rename, pending pairs -/
def fu_ci (src : Nat → Int32) (off i len : Nat) (A : Nat → Int32) : Nat → Int32 := fu_mp (fun j _ => src (j - off)) (off + i) (off + len) A
theorem fu_ci_e {src : Nat → Int32} {off i len : Nat} {A : Nat → Int32} (h : len ≤ i) : fu_ci src off i len A = A := fu_mp_e (by omega)
theorem fu_ci_s {src : Nat → Int32} {off i len : Nat} {A : Nat → Int32} (h : i < len) : fu_ci src off (i + 1) len (upd A (off + i) (src i)) = fu_ci src off i len A := by
  have H := fu_mp_s (F := fun j _ => src (j - off)) (i := off + i) (e := off + len) (A := A) (by omega)
  have e : src i = src (off + i - off) := by rw [show off + i - off = i by omega]
  unfold fu_ci
  rw [e]
  exact H
theorem fu_ci_in {src : Nat → Int32} {off len : Nat} {A : Nat → Int32} {j : Nat} (h : j < len) : fu_ci src off 0 len A (off + j) = src j := by
  unfold fu_ci
  rw [fu_mp_in (by omega) (by omega), show off + j - off = j by omega]
theorem fu_ci_out {src : Nat → Int32} {off len : Nat} {A : Nat → Int32} {j : Nat} (h : j < off ∨ off + len ≤ j) : fu_ci src off 0 len A j = A j := fu_mp_out (by omega)
def fu_ri (src : Nat → Int32) (off i len : Nat) (A : Nat → Int32) : Nat → Int32 := fu_mp (fun j _ => src (off + j)) i len A
theorem fu_ri_e {src : Nat → Int32} {off i len : Nat} {A : Nat → Int32} (h : len ≤ i) : fu_ri src off i len A = A := fu_mp_e h
theorem fu_ri_s {src : Nat → Int32} {off i len : Nat} {A : Nat → Int32} (h : i < len) : fu_ri src off (i + 1) len (upd A i (src (off + i))) = fu_ri src off i len A := fu_mp_s (F := fun j _ => src (off + j)) h
theorem fu_ri_in {src : Nat → Int32} {off len : Nat} {A : Nat → Int32} {j : Nat} (h : j < len) : fu_ri src off 0 len A j = src (off + j) := fu_mp_in (by omega) h
section
variable {nC mC pC : Int32} {LT TL CA TA VA SN SC ST SV PL PR IM : Nat → Int32}
theorem fx_sv60 {post : SX → Prop} {s : Nat} (hs : s < 7) : ∀ n i (SV : Nat → Int32), 48 - i < n → i ≤ 48 → post (nC, mC, pC, LT, TL, CA, TA, VA, SN, SC, ST, (fu_ci VA (s * 48) i 48 SV), PL, PR, IM) → wX_save_60 post (nI s) nC mC pC n (nI i) LT TL CA TA VA SN SC ST SV PL PR IM := by
  intro n
  induction n with
  | zero => intro i SV h; omega
  | succ n ih =>
    intro i SV h hi k
    rw [wX_save_60]
    refine pk_le 48 i (fun z => ?_) (fun z => ?_)
    · rw [fu_ci_e z] at k
      exact k
    · rw [fu_a4 s i]
      refine ⟨vp_in_nI z (by decide), vp_in_nI (by omega) (by decide), ?_⟩
      rw [nI_clamp (show s * 48 + i < 2 ^ 31 by omega), nI_clamp (show i < 2 ^ 31 by omega)]
      rw [← fu_ci_s z] at k
      exact nm_e (nm_r (nI_1 i) (ih (i + 1) _ (by omega) (by omega) k))
theorem fx_sv12 {post : SX → Prop} {s : Nat} (hs : s < 7) : ∀ n i (SC ST : Nat → Int32), 16 - i < n → i ≤ 16 → post (nC, mC, pC, LT, TL, CA, TA, VA, SN, (fu_ci CA (s * 16) i 16 SC), (fu_ci TA (s * 16) i 16 ST), (fu_ci VA (s * 48) 0 48 SV), PL, PR, IM) → wX_save_12 post (nI s) nC mC pC n (nI i) LT TL CA TA VA SN SC ST SV PL PR IM := by
  intro n
  induction n with
  | zero => intro i SC ST h; omega
  | succ n ih =>
    intro i SC ST h hi k
    rw [wX_save_12]
    refine pk_le 16 i (fun z => ?_) (fun z => ?_)
    · rw [fu_ci_e z, fu_ci_e z] at k
      exact ⟨49, fx_sv60 hs 49 0 SV (by omega) (by omega) k⟩
    · rw [fu_a3 s i]
      refine ⟨vp_in_nI z (by decide), vp_in_nI (by omega) (by decide), ?_⟩
      rw [nI_clamp (show s * 16 + i < 2 ^ 31 by omega), nI_clamp (show i < 2 ^ 31 by omega)]
      rw [← fu_ci_s (A := SC) z, ← fu_ci_s (A := ST) z] at k
      exact nm_e ⟨vp_in_nI z (by decide), vp_in_nI (by omega) (by decide), nm_e (nm_r (nI_1 i) (ih (i + 1) _ _ (by omega) (by omega) k))⟩
theorem fx_sv {post : SX → Prop} {s : Nat} (hs : s < 7) (k : post (nC, mC, pC, LT, TL, CA, TA, VA, (upd SN s nC), (fu_ci CA (s * 16) 0 16 SC), (fu_ci TA (s * 16) 0 16 ST), (fu_ci VA (s * 48) 0 48 SV), PL, PR, IM)) : wpX_save post (nC, mC, pC, LT, TL, CA, TA, VA, SN, SC, ST, SV, PL, PR, IM) (nI s) := by
  unfold wpX_save
  refine ⟨vp_in_nI hs (by decide), ?_⟩
  rw [nI_clamp (show s < 2 ^ 31 by omega)]
  exact nm_e ⟨17, fx_sv12 hs 17 0 SC ST (by omega) (by omega) k⟩
theorem fx_rs60 {post : SX → Prop} {s : Nat} (hs : s < 7) : ∀ n i (VA : Nat → Int32), 48 - i < n → i ≤ 48 → post (nC, mC, pC, LT, TL, CA, TA, (fu_ri SV (s * 48) i 48 VA), SN, SC, ST, SV, PL, PR, IM) → wX_restore_60 post (nI s) nC mC pC n (nI i) LT TL CA TA VA SN SC ST SV PL PR IM := by
  intro n
  induction n with
  | zero => intro i VA h; omega
  | succ n ih =>
    intro i VA h hi k
    rw [wX_restore_60]
    refine pk_le 48 i (fun z => ?_) (fun z => ?_)
    · rw [fu_ri_e z] at k
      exact k
    · rw [fu_a4 s i]
      refine ⟨vp_in_nI (by omega) (by decide), vp_in_nI z (by decide), ?_⟩
      rw [nI_clamp (show s * 48 + i < 2 ^ 31 by omega), nI_clamp (show i < 2 ^ 31 by omega)]
      rw [← fu_ri_s z] at k
      exact nm_e (nm_r (nI_1 i) (ih (i + 1) _ (by omega) (by omega) k))
theorem fx_rs12 {post : SX → Prop} {s : Nat} (hs : s < 7) : ∀ n i (CA TA : Nat → Int32), 16 - i < n → i ≤ 16 → post (nC, mC, pC, LT, TL, (fu_ri SC (s * 16) i 16 CA), (fu_ri ST (s * 16) i 16 TA), (fu_ri SV (s * 48) 0 48 VA), SN, SC, ST, SV, PL, PR, IM) → wX_restore_12 post (nI s) nC mC pC n (nI i) LT TL CA TA VA SN SC ST SV PL PR IM := by
  intro n
  induction n with
  | zero => intro i CA TA h; omega
  | succ n ih =>
    intro i CA TA h hi k
    rw [wX_restore_12]
    refine pk_le 16 i (fun z => ?_) (fun z => ?_)
    · rw [fu_ri_e z, fu_ri_e z] at k
      exact ⟨49, fx_rs60 hs 49 0 VA (by omega) (by omega) k⟩
    · rw [fu_a3 s i]
      refine ⟨vp_in_nI (by omega) (by decide), vp_in_nI z (by decide), ?_⟩
      rw [nI_clamp (show s * 16 + i < 2 ^ 31 by omega), nI_clamp (show i < 2 ^ 31 by omega)]
      rw [← fu_ri_s (A := CA) z, ← fu_ri_s (A := TA) z] at k
      exact nm_e ⟨vp_in_nI (by omega) (by decide), vp_in_nI z (by decide), nm_e (nm_r (nI_1 i) (ih (i + 1) _ _ (by omega) (by omega) k))⟩
theorem fx_rs {post : SX → Prop} {s : Nat} (hs : s < 7) (k : post ((SN s), mC, pC, LT, TL, (fu_ri SC (s * 16) 0 16 CA), (fu_ri ST (s * 16) 0 16 TA), (fu_ri SV (s * 48) 0 48 VA), SN, SC, ST, SV, PL, PR, IM)) : wpX_restore post (nC, mC, pC, LT, TL, CA, TA, VA, SN, SC, ST, SV, PL, PR, IM) (nI s) := by
  unfold wpX_restore
  refine ⟨vp_in_nI hs (by decide), ?_⟩
  rw [nI_clamp (show s < 2 ^ 31 by omega)]
  exact nm_e ⟨17, fx_rs12 hs 17 0 CA TA (by omega) (by omega) k⟩
def fu_rx (g k : Nat) : Nat → Int32 → Int32 := fun _ x => if x = nI g then nI k else x
theorem fx_rn35 {post : SX → Prop} {cnt g k : Nat} (hc : cnt ≤ 16) : ∀ n i (VA : Nat → Int32), cnt * 3 - i < n → i ≤ cnt * 3 → post ((nI cnt), mC, pC, LT, TL, CA, TA, (fu_mp (fu_rx g k) i (cnt * 3) VA), SN, SC, ST, SV, PL, PR, IM) → wX_rename_35 post (nI g) (nI k) (nI cnt) mC pC n (nI i) LT TL CA TA VA SN SC ST SV PL PR IM := by
  intro n
  induction n with
  | zero => intro i VA h; omega
  | succ n ih =>
    intro i VA h hi K
    rw [wX_rename_35]
    rw [fu_x3 cnt]
    refine pk_le (cnt * 3) i (fun z => ?_) (fun z => ?_)
    · rw [fu_mp_e z] at K
      exact K
    · refine ⟨vp_in_nI (by omega) (by decide), ?_⟩
      rw [nI_clamp (show i < 2 ^ 31 by omega)]
      refine br_c (fun y => ⟨vp_in_nI (by omega) (by decide), nm_e (nm_r (nI_1 i) (ih (i + 1) _ (by omega) (by omega) ?_))⟩) (fun y => nm_r (nI_1 i) (ih (i + 1) _ (by omega) (by omega) ?_))
      · have e : fu_rx g k i (VA i) = nI k := if_pos y
        rw [← fu_mp_s z, e] at K
        exact K
      · rw [fu_mp_k (show fu_rx g k i (VA i) = VA i from if_neg y)]
        exact K
theorem fx_rn2 {post : SX → Prop} {cnt g k : Nat} (hc : cnt ≤ 16) : ∀ n i (CA : Nat → Int32), cnt - i < n → i ≤ cnt → post ((nI cnt), mC, pC, LT, TL, (fu_mp (fu_rx g k) i cnt CA), TA, (fu_mp (fu_rx g k) 0 (cnt * 3) VA), SN, SC, ST, SV, PL, PR, IM) → wX_rename_2 post (nI g) (nI k) (nI cnt) mC pC n (nI i) LT TL CA TA VA SN SC ST SV PL PR IM := by
  intro n
  induction n with
  | zero => intro i CA h; omega
  | succ n ih =>
    intro i CA h hi K
    rw [wX_rename_2]
    refine pk_le cnt i (fun z => ?_) (fun z => ?_)
    · rw [fu_mp_e z] at K
      exact ⟨cnt * 3 + 1, fx_rn35 hc (cnt * 3 + 1) 0 VA (by omega) (by omega) K⟩
    · refine ⟨vp_in_nI (by omega) (by decide), ?_⟩
      rw [nI_clamp (show i < 2 ^ 31 by omega)]
      refine br_c (fun y => ⟨vp_in_nI (by omega) (by decide), nm_e (nm_r (nI_1 i) (ih (i + 1) _ (by omega) (by omega) ?_))⟩) (fun y => nm_r (nI_1 i) (ih (i + 1) _ (by omega) (by omega) ?_))
      · have e : fu_rx g k i (CA i) = nI k := if_pos y
        rw [← fu_mp_s (A := CA) z, e] at K
        exact K
      · rw [fu_mp_k (show fu_rx g k i (CA i) = CA i from if_neg y)]
        exact K
theorem fx_rn {post : SX → Prop} {cnt g k : Nat} (hc : cnt ≤ 16) (K : post ((nI cnt), mC, pC, LT, TL, (fu_mp (fu_rx g k) 0 cnt CA), TA, (fu_mp (fu_rx g k) 0 (cnt * 3) VA), SN, SC, ST, SV, PL, PR, IM)) : wpX_rename post ((nI cnt), mC, pC, LT, TL, CA, TA, VA, SN, SC, ST, SV, PL, PR, IM) (nI g) (nI k) := by
  unfold wpX_rename
  exact ⟨cnt + 1, fx_rn2 hc (cnt + 1) 0 CA (by omega) (by omega) K⟩
theorem fx_ap {post : SX → Prop} {pc : Nat} {x y : Int32} (h : pc < 46) (k : post (nC, mC, (nI (pc + 1)), LT, TL, CA, TA, VA, SN, SC, ST, SV, (upd PL pc x), (upd PR pc y), IM)) : wpX_addPending post (nC, mC, (nI pc), LT, TL, CA, TA, VA, SN, SC, ST, SV, PL, PR, IM) x y := by
  unfold wpX_addPending
  refine br_f (nI_ge (b := 46) h (by decide)) ?_
  refine ⟨vp_in_nI h (by decide), ?_⟩
  rw [nI_clamp (show pc < 2 ^ 31 by omega)]
  exact nm_e ⟨vp_in_nI h (by decide), nm_e (nm_r (nI_1 pc) k)⟩
end
end
section
/-! X: joinValues, merge, makeOne -/
theorem fu_JP0 (vg vk : Nat → Option Nat) (L R : Nat → Nat) (pc : Nat) : fu_JP vg vk L R pc L R pc 0 :=
  ⟨by omega, by omega, fun _ _ => ⟨rfl, rfl⟩, fun i h1 h2 => by omega, fun f d e hf => by omega⟩
theorem fu_JPk {vg vk : Nat → Option Nat} {L R L1 R1 : Nat → Nat} {pc pc1 i : Nat} (J : fu_JP vg vk L R pc L1 R1 pc1 i) (h : ∀ d e, vg i = some d → vk i = some e → d = e) : fu_JP vg vk L R pc L1 R1 pc1 (i + 1) := by
  obtain ⟨j1, j2, j3, j4, j5⟩ := J
  refine ⟨j1, by omega, j3, fun x h1 h2 => ?_, fun f d e hf hd he n => ?_⟩
  · obtain ⟨f, d, e, hf, r⟩ := j4 x h1 h2
    exact ⟨f, d, e, by omega, r⟩
  · by_cases z : f = i
    · subst z
      exact absurd (h d e hd he) n
    · exact j5 f d e (by omega) hd he n
theorem fu_JPa {vg vk : Nat → Option Nat} {L R L1 R1 : Nat → Nat} {pc pc1 i d e : Nat} (J : fu_JP vg vk L R pc L1 R1 pc1 i) (hd : vg i = some d) (he : vk i = some e) : fu_JP vg vk L R pc (fun j => if j = pc1 then d else L1 j) (fun j => if j = pc1 then e else R1 j) (pc1 + 1) (i + 1) := by
  obtain ⟨j1, j2, j3, j4, j5⟩ := J
  refine ⟨by omega, by omega, fun x hx => ?_, fun x h1 h2 => ?_, fun f d2 e2 hf hd2 he2 n => ?_⟩
  · have n : ¬ x = pc1 := by omega
    show (if x = pc1 then d else L1 x) = L x ∧ (if x = pc1 then e else R1 x) = R x
    rw [if_neg n, if_neg n]
    exact j3 x hx
  · show ∃ f d_1 e_1, f < i + 1 ∧ vg f = some d_1 ∧ vk f = some e_1 ∧ (if x = pc1 then d else L1 x) = d_1 ∧ (if x = pc1 then e else R1 x) = e_1
    by_cases z : x = pc1
    · rw [if_pos z, if_pos z]
      exact ⟨i, d, e, by omega, hd, he, rfl, rfl⟩
    · rw [if_neg z, if_neg z]
      obtain ⟨f, d, e, hf, r⟩ := j4 x h1 (by omega)
      exact ⟨f, d, e, by omega, r⟩
  · by_cases z : f = i
    · subst z
      rw [hd] at hd2
      rw [he] at he2
      cases hd2
      cases he2
      exact ⟨pc1, by omega, by omega, if_pos rfl, if_pos rfl⟩
    · obtain ⟨x, h1, h2, h3, h4⟩ := j5 f d2 e2 (by omega) hd2 he2 n
      have n : ¬ x = pc1 := by omega
      exact ⟨x, h1, by omega, (if_neg n).trans h3, (if_neg n).trans h4⟩
def fu_jx (gr : Nat → Int32) (k : Nat) : Nat → Int32 → Int32 := fun j x => if x = -4 then gr (j - 3 * k) else x
section
variable {nC mC pC : Int32} {LT TL CA TA VA SN SC ST SV PL PR IM : Nat → Int32}
theorem fx_jv2 {post : SX → Prop} {g k : Nat} {vg vk : Nat → Option Nat} {L R : Nat → Nat} {pc : Nat} {gr VE : Nat → Int32} (hg : g < 16) (hk : k < 16) (hgk : g ≠ k)
    (hgr : ∀ f, f < 3 → gr f = fu_v (vg f)) (bg : ∀ f d, f < 3 → vg f = some d → d < 16) (bk : ∀ f d, f < 3 → vk f = some d → d < 16) (hpc : pc + 3 ≤ 46)
    (K : ∀ L2 R2 pc2 (PL' PR' : Nat → Int32), fu_JP vg vk L R pc L2 R2 pc2 3 → (∀ j, j < pc2 → PL' j = nI (L2 j) ∧ PR' j = nI (R2 j)) → post (nC, mC, (nI pc2), LT, TL, CA, TA, VE, SN, SC, ST, SV, PL', PR', IM)) :
    ∀ n i (VA PL PR : Nat → Int32) (L1 R1 : Nat → Nat) (pc1 : Nat), 3 - i < n → i ≤ 3 → (∀ f, f < 3 → VA (3 * g + f) = gr f) → (∀ f, i ≤ f → f < 3 → VA (3 * k + f) = fu_v (vk f)) →
      fu_mp (fu_jx gr k) (3 * k + i) (3 * k + 3) VA = VE → fu_JP vg vk L R pc L1 R1 pc1 i → (∀ j, j < pc1 → PL j = nI (L1 j) ∧ PR j = nI (R1 j)) → wX_joinValues_2 post (nI g) (nI k) n (nI i) nC mC (nI pc1) LT TL CA TA VA SN SC ST SV PL PR IM := by
  intro n
  induction n with
  | zero => intro i VA PL PR L1 R1 pc1 h; omega
  | succ n ih =>
    intro i VA PL PR L1 R1 pc1 h hi h1 h2 hV J P
    rw [wX_joinValues_2]
    refine pk_le 3 i (fun z => ?_) (fun z => ?_)
    · have e : i = 3 := by omega
      subst e
      rw [fu_mp_e (by omega)] at hV
      rw [hV]
      exact K L1 R1 pc1 PL PR J P
    · rw [fu_a1 g i, fu_a1 k i]
      refine ⟨vp_in_nI (by omega) (by decide), ?_⟩
      rw [nI_clamp (show 3 * g + i < 2 ^ 31 by omega), nI_clamp (show 3 * k + i < 2 ^ 31 by omega), h1 i z, h2 i (by omega) z]
      refine nm_e ⟨vp_in_nI (by omega) (by decide), nm_e ?_⟩
      have hm : 3 * k + i < 3 * k + 3 := by omega
      have hx : fu_jx gr k (3 * k + i) (VA (3 * k + i)) = if fu_v (vk i) = -4 then gr i else fu_v (vk i) := by
        unfold fu_jx
        rw [h2 i (by omega) z, show 3 * k + i - 3 * k = i by omega]
      cases y : vk i with
      | none =>
        rw [y] at hx
        rw [if_pos (show fu_v none = -4 from rfl)] at hx
        refine br_t (show fu_v none = -4 from rfl) ⟨vp_in_nI (by omega) (by decide), nm_e (nm_r (nI_1 i) ?_)⟩
        refine ih (i + 1) _ PL PR L1 R1 pc1 (by omega) (by omega) (fun f hf => ?_) (fun f hf hf2 => ?_) ?_ (fu_JPk J (fun d e _ he => by rw [y] at he; exact nomatch he)) P
        · rw [pk_un (by omega)]
          exact h1 f hf
        · rw [pk_un (by omega)]
          exact h2 f (by omega) hf2
        · rw [← hV, ← fu_mp_s (A := VA) hm, hx]
          rfl
      | some d =>
        have bd := bk i d z y
        rw [y] at hx
        rw [if_neg (show ¬ fu_v (some d) = -4 from fu_ne (by omega)), ← y, ← h2 i (by omega) z] at hx
        have hV2 : fu_mp (fu_jx gr k) (3 * k + (i + 1)) (3 * k + 3) VA = VE := by
          rw [← hV, ← fu_mp_k hx]
          rfl
        have S : (∀ d e, vg i = some d → vk i = some e → d = e) → wX_joinValues_2 post (nI g) (nI k) n (nI (i + 1)) nC mC (nI pc1) LT TL CA TA VA SN SC ST SV PL PR IM := fun hs =>
          ih (i + 1) VA PL PR L1 R1 pc1 (by omega) (by omega) h1 (fun f hf hf2 => h2 f (by omega) hf2) hV2 (fu_JPk J hs) P
        refine br_f (show ¬ fu_v (some d) = -4 from fu_ne (by omega)) ?_
        rw [hgr i z]
        cases x : vg i with
        | none => exact br_t rfl (nm_r (nI_1 i) (S (fun d e hd _ => by rw [x] at hd; exact nomatch hd)))
        | some e =>
          have be := bg i e z x
          refine br_f (show ¬ fu_v (some e) = -4 from fu_ne (by omega)) ?_
          refine pk_eq e d (fun w => nm_r (nI_1 i) (S (fun d' e' hd he => ?_))) (fun w => ?_)
          · rw [x] at hd
            rw [y] at he
            cases hd
            cases he
            exact w
          · have j2 := J.2.1
            refine fx_ap (by omega) (nm_r (nI_1 i) ?_)
            refine ih (i + 1) VA _ _ _ _ (pc1 + 1) (by omega) (by omega) h1 (fun f hf hf2 => h2 f (by omega) hf2) hV2 (fu_JPa J x y) (fun j hj => ?_)
            by_cases q : j = pc1
            · rw [q, pk_us, pk_us, if_pos rfl, if_pos rfl]
              exact ⟨rfl, rfl⟩
            · rw [pk_un q, pk_un q, if_neg q, if_neg q]
              exact P j (by omega)
theorem fx_jv {post : SX → Prop} {g k : Nat} {vg vk : Nat → Option Nat} {L R : Nat → Nat} {pc : Nat} (hg : g < 16) (hk : k < 16) (hgk : g ≠ k)
    (h1 : ∀ f, f < 3 → VA (3 * g + f) = fu_v (vg f)) (h2 : ∀ f, f < 3 → VA (3 * k + f) = fu_v (vk f)) (bg : ∀ f d, f < 3 → vg f = some d → d < 16) (bk : ∀ f d, f < 3 → vk f = some d → d < 16) (hpc : pc + 3 ≤ 46)
    (P : ∀ j, j < pc → PL j = nI (L j) ∧ PR j = nI (R j))
    (K : ∀ L2 R2 pc2 (PL' PR' : Nat → Int32), fu_JP vg vk L R pc L2 R2 pc2 3 → (∀ j, j < pc2 → PL' j = nI (L2 j) ∧ PR' j = nI (R2 j)) → post (nC, mC, (nI pc2), LT, TL, CA, TA, (fu_mp (fu_jx (fun f => fu_v (vg f)) k) (3 * k) (3 * k + 3) VA), SN, SC, ST, SV, PL', PR', IM)) :
    wpX_joinValues post (nC, mC, (nI pc), LT, TL, CA, TA, VA, SN, SC, ST, SV, PL, PR, IM) (nI g) (nI k) := by
  unfold wpX_joinValues
  exact ⟨4, fx_jv2 hg hk hgk (fun _ _ => rfl) bg bk hpc K 4 0 VA PL PR L R pc (by omega) (by omega) h1 (fun f _ hf => h2 f hf) rfl (fu_JP0 vg vk L R pc) P⟩
theorem fu_rx_v {g k : Nat} {o : Option Nat} (hg : g < 2 ^ 31) (ho : ∀ d, o = some d → d < 2 ^ 31) (j : Nat) : fu_rx g k j (fu_v o) = fu_v (fu_rv g k o) := by
  cases o with
  | none =>
    unfold fu_rx
    exact if_neg (fun z => fu_ne hg z.symm)
  | some d =>
    have hd := ho d rfl
    show (if nI d = nI g then nI k else nI d) = nI (fu_rn g k d)
    by_cases z : d = g
    · rw [z, if_pos rfl, fu_rn_g]
    · rw [if_neg (fun y => z ((nI_eq hd hg).mp y)), fu_rn_n z]
theorem fu_rx_c {g k d : Nat} (hg : g < 2 ^ 31) (hd : d < 2 ^ 31) (j : Nat) : fu_rx g k j (nI d) = nI (fu_rn g k d) := fu_rx_v (o := some d) hg (fun _ e => by cases e; exact hd) j
/-- the arrays after a merge -/
theorem fu_PCm {cnt : Nat} {c1 t1 : Nat → Nat} {v1 : Nat → Nat → Option Nat} {g k ty : Nat} (hc : cnt ≤ 16) (P : fu_PC cnt c1 t1 v1 CA TA VA) (i1 : ∀ p, p < cnt → c1 p ≤ p ∧ c1 (c1 p) = c1 p) (bv : ∀ p f d, p < cnt → c1 p = p → f < 3 → v1 p f = some d → d < cnt) (hkg : k < g) (hg : g < cnt) (ek : c1 k = k) (eg : c1 g = g) :
    fu_PC cnt (fun p => fu_rn g k (c1 p)) (fun p => if p = k then ty else t1 p) (fu_v2 v1 g k) (fu_mp (fu_rx g k) 0 cnt CA) (upd TA k (nI ty)) (fu_mp (fu_jx (fun f => fu_v (fu_rv g k (v1 g f))) k) (3 * k) (3 * k + 3) (fu_mp (fu_rx g k) 0 (cnt * 3) VA)) := by
  obtain ⟨p1, p2, p3⟩ := P
  have cl : ∀ p, p < cnt → fu_rn g k (c1 p) = p → c1 p = p ∧ p ≠ g := by
    intro p hp h
    by_cases z : c1 p = g
    · rw [z, fu_rn_g] at h
      subst h
      rw [ek] at z
      exact absurd z (by omega)
    · rw [fu_rn_n z] at h
      refine ⟨h, fun y => z ?_⟩
      rw [h, y]
  have q3 : ∀ p f, p < cnt → c1 p = p → f < 3 → fu_mp (fu_rx g k) 0 (cnt * 3) VA (3 * p + f) = fu_v (fu_rv g k (v1 p f)) := by
    intro p f hp ep hf
    rw [fu_mp_in (by omega) (by omega), p3 p f hp ep hf, fu_rx_v (by omega) (fun d hd => ?_)]
    have := bv p f d hp ep hf hd
    omega
  refine ⟨fun p hp => ?_, fun p hp ep => ?_, fun p f hp ep hf => ?_⟩
  · have := (i1 p hp).1
    rw [fu_mp_in (by omega) hp, p1 p hp, fu_rx_c (by omega) (by omega)]
  · obtain ⟨e1, _⟩ := cl p hp ep
    show upd TA k (nI ty) p = nI (if p = k then ty else t1 p)
    by_cases z : p = k
    · rw [z, pk_us, if_pos rfl]
    · rw [pk_un z, if_neg z]
      exact p2 p hp e1
  · obtain ⟨e1, _⟩ := cl p hp ep
    unfold fu_v2
    by_cases z : p = k
    · subst z
      rw [if_pos rfl, fu_mp_in (by omega) (by omega), q3 p f hp e1 hf]
      unfold fu_jx
      rw [show 3 * p + f - 3 * p = f by omega]
      cases y : fu_rv g p (v1 p f) with
      | none => exact if_pos rfl
      | some d =>
        obtain ⟨e, he, hd⟩ := fu_rv_s y
        have be := bv p f e hp e1 hf he
        have bd : d < 2 ^ 31 := by
          rw [← hd]
          by_cases w : e = g
          · rw [w, fu_rn_g]; omega
          · rw [fu_rn_n w]; omega
        exact if_neg (fu_ne bd)
    · rw [if_neg z, fu_mp_out (by omega)]
      exact q3 p f hp e1 hf
end
end
section
/-! X: merge, makeOne -/
section
variable {nC mC pC : Int32} {LT TL CA TA VA SN SC ST SV PL PR IM : Nat → Int32}
variable {cnt : Nat} {c t : Nat → Nat} {v : Nat → Nat → Option Nat} {lo : Nat → Int32} {n m : Nat}
theorem fx_mg50 {post : Int32 → SX → Prop} {c1 t1 : Nat → Nat} {v1 : Nat → Nat → Option Nat} {L R : Nat → Nat} {pc g k ty : Nat} (hc : cnt ≤ 16) (P : fu_PC cnt c1 t1 v1 CA TA VA)
    (bv : ∀ p f d, p < cnt → c1 p = p → f < 3 → v1 p f = some d → d < cnt) (hkg : k < g) (hg : g < cnt) (ek : c1 k = k) (eg : c1 g = g) (hpc : pc ≤ 43)
    (Q : ∀ j, j < pc → PL j = nI (L j) ∧ PR j = nI (R j))
    (K : ∀ L2 R2 pc2 (PL' PR' : Nat → Int32), fu_JP (fun f => fu_rv g k (v1 g f)) (fun f => fu_rv g k (v1 k f)) L R pc L2 R2 pc2 3 → (∀ j, j < pc2 → PL' j = nI (L2 j) ∧ PR' j = nI (R2 j)) →
      post 1 ((nI cnt), mC, (nI pc2), LT, TL, (fu_mp (fu_rx g k) 0 cnt CA), (upd TA k (nI ty)), (fu_mp (fu_jx (fun f => fu_v (fu_rv g k (v1 g f))) k) (3 * k) (3 * k + 3) (fu_mp (fu_rx g k) 0 (cnt * 3) VA)), SN, SC, ST, SV, PL', PR', IM)) :
    wX_merge_50 post (nI ty) (nI k) (nI g) (nI cnt) mC (nI pc) LT TL CA TA VA SN SC ST SV PL PR IM := by
  unfold wX_merge_50
  refine ⟨vp_in_nI (by omega) (by decide), ?_⟩
  rw [nI_clamp (show k < 2 ^ 31 by omega)]
  refine nm_e (fx_rn hc ?_)
  have rb : ∀ p f d, p < cnt → c1 p = p → f < 3 → fu_rv g k (v1 p f) = some d → d < 16 := by
    intro p f d hp ep hf h
    obtain ⟨e, he, hd⟩ := fu_rv_s h
    have be := bv p f e hp ep hf he
    rw [← hd]
    by_cases w : e = g
    · rw [w, fu_rn_g]; omega
    · rw [fu_rn_n w]; omega
  have q3 : ∀ p f, p < cnt → c1 p = p → f < 3 → fu_mp (fu_rx g k) 0 (cnt * 3) VA (3 * p + f) = fu_v (fu_rv g k (v1 p f)) := by
    intro p f hp ep hf
    rw [fu_mp_in (by omega) (by omega), P.2.2 p f hp ep hf, fu_rx_v (by omega) (fun d hd => ?_)]
    have := bv p f d hp ep hf hd
    omega
  exact fx_jv (vg := fun f => fu_rv g k (v1 g f)) (vk := fun f => fu_rv g k (v1 k f)) (by omega) (by omega) (by omega) (fun f hf => q3 g f hg eg hf) (fun f hf => q3 k f (by omega) ek hf) (fun f d hf h => rb g f d hg eg hf h) (fun f d hf h => rb k f d (by omega) ek hf h) (by omega) Q (fun L2 R2 pc2 PL' PR' J Q2 => K L2 R2 pc2 PL' PR' J Q2)
theorem fx_mg {post : Int32 → SX → Prop} {c1 t1 : Nat → Nat} {v1 : Nat → Nat → Option Nat} {L R : Nat → Nat} {pc a b g k : Nat} (hc : cnt ≤ 16) (hl : ∀ t, t < 8 → LT t = lo t) (P : fu_PC cnt c1 t1 v1 CA TA VA)
    (bv : ∀ p f d, p < cnt → c1 p = p → f < 3 → v1 p f = some d → d < cnt) (bt8 : ∀ p, p < cnt → c1 p = p → t1 p < 8) (hkg : k < g) (hg : g < cnt) (ek : c1 k = k) (eg : c1 g = g) (hpc : pc ≤ 43)
    (hor : (a = k ∧ b = g) ∨ (a = g ∧ b = k))
    (Q : ∀ j, j < pc → PL j = nI (L j) ∧ PR j = nI (R j))
    (K0 : fu_mt lo (t1 a) (t1 b) = -4 → post 0 ((nI cnt), mC, (nI pc), LT, TL, CA, TA, VA, SN, SC, ST, SV, PL, PR, IM))
    (K : ∀ ty, ty < 8 → lo ty = lo (t1 k) &&& lo (t1 g) → ∀ L2 R2 pc2 (PL' PR' : Nat → Int32), fu_JP (fun f => fu_rv g k (v1 g f)) (fun f => fu_rv g k (v1 k f)) L R pc L2 R2 pc2 3 → (∀ j, j < pc2 → PL' j = nI (L2 j) ∧ PR' j = nI (R2 j)) →
      post 1 ((nI cnt), mC, (nI pc2), LT, TL, (fu_mp (fu_rx g k) 0 cnt CA), (upd TA k (nI ty)), (fu_mp (fu_jx (fun f => fu_v (fu_rv g k (v1 g f))) k) (3 * k) (3 * k + 3) (fu_mp (fu_rx g k) 0 (cnt * 3) VA)), SN, SC, ST, SV, PL', PR', IM)) :
    wpX_merge post ((nI cnt), mC, (nI pc), LT, TL, CA, TA, VA, SN, SC, ST, SV, PL, PR, IM) (nI a) (nI b) := by
  have ha : a < cnt ∧ c1 a = a := by
    rcases hor with ⟨x, y⟩ | ⟨x, y⟩
    · subst x; exact ⟨by omega, ek⟩
    · subst x; exact ⟨hg, eg⟩
  have hb : b < cnt ∧ c1 b = b := by
    rcases hor with ⟨x, y⟩ | ⟨x, y⟩
    · subst y; exact ⟨hg, eg⟩
    · subst y; exact ⟨by omega, ek⟩
  unfold wpX_merge
  refine ⟨vp_in_nI (by omega) (by decide), vp_in_nI (by omega) (by decide), ?_⟩
  rw [nI_clamp (show a < 2 ^ 31 by omega), nI_clamp (show b < 2 ^ 31 by omega), P.2.1 a ha.1 ha.2, P.2.1 b hb.1 hb.2]
  refine fx_mi hl (bt8 a ha.1 ha.2) (bt8 b hb.1 hb.2) ?_
  rcases fu_mt_sp lo (t1 a) (t1 b) with ⟨e, _⟩ | ⟨ty, hty, e, el⟩
  · exact br_t e (K0 e)
  · rw [e]
    refine br_f (fu_ne (by omega)) ?_
    have el2 : lo ty = lo (t1 k) &&& lo (t1 g) := by
      rcases hor with ⟨x, y⟩ | ⟨x, y⟩
      · rw [el, x, y]
      · rw [el, x, y, fu_andc]
    have M : wX_merge_50 post (nI ty) (nI k) (nI g) (nI cnt) mC (nI pc) LT TL CA TA VA SN SC ST SV PL PR IM := fx_mg50 hc P bv hkg hg ek eg hpc Q (K ty hty el2)
    rcases hor with ⟨x, y⟩ | ⟨x, y⟩
    · subst x y
      refine br_f (nI_ge hkg (by omega)) ?_
      unfold wX_merge_38
      exact br_f (nI_ge hkg (by omega)) M
    · subst x y
      refine br_t (nI_le (by omega) (by omega)) ?_
      unfold wX_merge_38
      exact br_t (nI_le (by omega) (by omega)) M
theorem fx_mo13 {post : Int32 → SX → Prop} (W : fu_WF cnt c t v) (F : fu_Fit lo) (hl : ∀ t, t < 8 → LT t = lo t) (h0 : 0 < cnt)
    (K0 : fu_Bad cnt c t v lo n m → ∀ (pC : Int32) (CA TA VA PL PR : Nat → Int32), post 0 ((nI cnt), mC, pC, LT, TL, CA, TA, VA, SN, SC, ST, SV, PL, PR, IM))
    (K1 : ∀ c1 t1 v1 L R a pc, fu_X cnt c t v lo n m c1 t1 v1 L R a pc → pc ≤ a → ∀ (pC : Int32) (CA TA VA PL PR : Nat → Int32), fu_PC cnt c1 t1 v1 CA TA VA → post 1 ((nI cnt), mC, pC, LT, TL, CA, TA, VA, SN, SC, ST, SV, PL, PR, IM)) :
    ∀ q i (c1 t1 : Nat → Nat) (v1 : Nat → Nat → Option Nat) (L R : Nat → Nat) (pc : Nat) (CA TA VA PL PR : Nat → Int32), 46 - i < q → i ≤ pc → fu_X cnt c t v lo n m c1 t1 v1 L R i pc → fu_PC cnt c1 t1 v1 CA TA VA → (∀ j, j < pc → PL j = nI (L j) ∧ PR j = nI (R j)) → wX_makeOne_13 post q (nI i) (nI cnt) mC (nI pc) LT TL CA TA VA SN SC ST SV PL PR IM := by
  intro q
  induction q with
  | zero => intro i c1 t1 v1 L R pc CA TA VA PL PR h; omega
  | succ q ih =>
    intro i c1 t1 v1 L R pc CA TA VA PL PR h hi I P Q
    have w1 := W.1
    have hpc := fu_Xpc I w1 h0
    rw [wX_makeOne_13]
    refine pk_le pc i (fun z => ?_) (fun z => ?_)
    · exact K1 c1 t1 v1 L R i pc I z _ CA TA VA PL PR P
    · refine br_f (nI_ge (b := 46) (by omega) (by decide)) ⟨vp_in_nI (by omega) (by decide), ?_⟩
      have i1 := I.1
      obtain ⟨hL, hR, _⟩ := I.2.2.2.1 i z
      have bL := i1 _ hL
      have bR := i1 _ hR
      rw [nI_clamp (show i < 2 ^ 31 by omega), (Q i z).1, (Q i z).2]
      refine ⟨vp_in_nI (by omega) (by decide), ?_⟩
      rw [nI_clamp (show L i < 2 ^ 31 by omega), nI_clamp (show R i < 2 ^ 31 by omega), P.1 _ hL, P.1 _ hR]
      refine nm_e ⟨vp_in_nI (by omega) (by decide), vp_in_nI (by omega) (by decide), nm_e ?_⟩
      refine pk_eq (c1 (L i)) (c1 (R i)) (fun y => nm_r (nI_1 i) (ih (i + 1) c1 t1 v1 L R pc CA TA VA PL PR (by omega) (by omega) (fu_Xs I z y) P Q)) (fun y => ?_)
      have bv : ∀ p f d, p < cnt → c1 p = p → f < 3 → v1 p f = some d → d < cnt := fun p f d hp ep hf hv => (I.2.2.2.2.1 p f d hp ep hf hv).1
      have b8 : ∀ p, p < cnt → c1 p = p → t1 p < 8 := fun p hp ep => (I.2.2.2.2.2.2.2.1 p hp ep).1
      have key : ∀ g k, k < g → g < cnt → c1 k = k → c1 g = g → ((c1 (L i) = k ∧ c1 (R i) = g) ∨ (c1 (L i) = g ∧ c1 (R i) = k)) →
          wpX_merge (fun r_27 u => match u with | (nC, mC, pC, LT, TL, CA, TA, VA, SN, SC, ST, SV, PL, PR, IM) => (((r_27 = 0 → (post 0 (nC, mC, pC, LT, TL, CA, TA, VA, SN, SC, ST, SV, PL, PR, IM))) ∧ (¬ r_27 = 0 → (∀ x3_44 : Int32, x3_44 = nI i + 1 → (wX_makeOne_13 post q x3_44 nC mC pC LT TL CA TA VA SN SC ST SV PL PR IM)))))) ((nI cnt), mC, (nI pc), LT, TL, CA, TA, VA, SN, SC, ST, SV, PL, PR, IM) (nI (c1 (L i))) (nI (c1 (R i))) := by
        intro g k hkg hg ek eg hor
        refine fx_mg (L := L) (R := R) w1 hl P bv b8 hkg hg ek eg (fu_Xpm I w1 hkg hg ek eg) hor Q (fun e => ?_) (fun ty hty el L2 R2 pc2 PL' PR' J Q2 => ?_)
        · exact br_t rfl (K0 (fu_Xf F.2.2 I z e) _ CA TA VA PL PR)
        · refine br_f (by decide) (nm_r (nI_1 i) ?_)
          exact ih (i + 1) _ _ _ L2 R2 pc2 _ _ _ PL' PR' (by omega) (by have := J.1; omega) (fu_Xm I W z hkg hor hty el J) (fu_PCm w1 P i1 bv hkg hg ek eg) Q2
      rcases Nat.lt_or_gt_of_ne y with y | y
      · exact key _ _ y (by omega) bL.2 bR.2 (Or.inl ⟨rfl, rfl⟩)
      · exact key _ _ y (by omega) bR.2 bL.2 (Or.inr ⟨rfl, rfl⟩)
theorem fx_mo {post : Int32 → SX → Prop} (W : fu_WF cnt c t v) (F : fu_Fit lo) (hl : ∀ t, t < 8 → LT t = lo t) (hn : n < cnt) (hm : m < cnt) (P : fu_PC cnt c t v CA TA VA)
    (K0 : fu_Bad cnt c t v lo n m → ∀ (pC : Int32) (CA TA VA PL PR : Nat → Int32), post 0 ((nI cnt), mC, pC, LT, TL, CA, TA, VA, SN, SC, ST, SV, PL, PR, IM))
    (K1 : ∀ c1 t1 v1 L R a pc, fu_X cnt c t v lo n m c1 t1 v1 L R a pc → pc ≤ a → ∀ (pC : Int32) (CA TA VA PL PR : Nat → Int32), fu_PC cnt c1 t1 v1 CA TA VA → post 1 ((nI cnt), mC, pC, LT, TL, CA, TA, VA, SN, SC, ST, SV, PL, PR, IM)) :
    wpX_makeOne post ((nI cnt), mC, pC, LT, TL, CA, TA, VA, SN, SC, ST, SV, PL, PR, IM) (nI n) (nI m) := by
  unfold wpX_makeOne
  refine fx_ap (pc := 0) (by omega) ⟨47, ?_⟩
  refine fx_mo13 (n := n) (m := m) W F hl (by omega) K0 K1 47 0 c t v (fun _ => n) (fun _ => m) 1 CA TA VA _ _ (by omega) (by omega) (fu_X0 W hn hm rfl rfl) P (fun j hj => ?_)
  have : j = 0 := by omega
  subst this
  exact ⟨pk_us, pk_us⟩
end
end
section
/-! X: under, node, reach -/
theorem fu_uu {A : Nat → Int32} {i : Nat} {x y : Int32} : upd (upd A i x) i y = upd A i y := by
  funext j
  unfold upd
  by_cases z : j = i
  · rw [if_pos z, if_pos z]
  · rw [if_neg z, if_neg z, if_neg z]
theorem fu_nw_cg {lo l2 : Nat → Int32} {a b t : Nat} (h : ∀ t, t < 8 → l2 t = lo t) (ha : a < 8) (ht : t < 8) : fu_nw l2 a b t = fu_nw lo a b t := by
  unfold fu_nw
  rw [h a ha, h t ht]
section
variable {nC mC pC : Int32} {LT TL CA TA VA SN SC ST SV PL PR IM : Nat → Int32}
theorem fx_tu2 {post : SX → Prop} {a b : Nat} (ha : a < 8) (hb : b < 8) : ∀ n i (TL : Nat → Int32), 8 - i < n → i ≤ 8 → post (nC, mC, pC, LT, (fu_mp (fun j _ => fu_nw LT a b j) i 8 TL), CA, TA, VA, SN, SC, ST, SV, PL, PR, IM) → wX_tryUnder_2 post (nI a) (nI b) nC mC pC n (nI i) LT TL CA TA VA SN SC ST SV PL PR IM := by
  intro n
  induction n with
  | zero => intro i TL h; omega
  | succ n ih =>
    intro i TL h hi k
    rw [wX_tryUnder_2]
    refine pk_le 8 i (fun z => ?_) (fun z => ?_)
    · rw [fu_mp_e z] at k
      exact k
    · refine ⟨vp_in_nI z (by decide), vp_in_nI z (by decide), ?_⟩
      rw [nI_clamp (show i < 2 ^ 31 by omega), nI_clamp (show a < 2 ^ 31 by omega)]
      refine nm_e (fx_lu hb z ?_)
      have H := ih (i + 1) (upd TL i (fu_nw LT a b i)) (by omega) (by omega) (by
        rw [← fu_mp_s (A := TL) z] at k
        exact k)
      cases y : bt (LT i) b with
      | true =>
        have e : fu_nw LT a b i = LT i ||| LT a := if_pos y
        rw [e] at H
        refine br_f (by decide) ⟨vp_in_nI z (by decide), vp_in_nI ha (by decide), vp_in_nI z (by decide), ?_⟩
        rw [pk_us, fu_uu]
        exact nm_e (nm_r (nI_1 i) H)
      | false =>
        have e : fu_nw LT a b i = LT i := if_neg (by rw [y]; decide)
        rw [e] at H
        exact br_t rfl (nm_r (nI_1 i) H)
theorem fx_tu {post : SX → Prop} {a b : Nat} (ha : a < 8) (hb : b < 8) (k : post (nC, mC, pC, LT, (fu_mp (fun j _ => fu_nw LT a b j) 0 8 TL), CA, TA, VA, SN, SC, ST, SV, PL, PR, IM)) : wpX_tryUnder post (nC, mC, pC, LT, TL, CA, TA, VA, SN, SC, ST, SV, PL, PR, IM) (nI a) (nI b) := by
  unfold wpX_tryUnder
  exact ⟨9, fx_tu2 ha hb 9 0 TL (by omega) (by omega) k⟩
theorem fx_em10 {post J2 : Int32 → Prop} {lo : Nat → Int32} {a : Nat} (hl : ∀ t, t < 8 → TL t = lo t) (ha : a < 8) (K : (∀ b, b < a → lo a &&& lo b ≠ 0 → fu_mt lo a b ≠ -4) → J2 (nI (a + 1))) (K0 : ¬ fu_okX lo → post 0) :
    ∀ n i, a - i < n → i ≤ a → (∀ b, b < i → lo a &&& lo b ≠ 0 → fu_mt lo a b ≠ -4) → wX_everyMeetExists__triedLowerTypes_10 post J2 (nI a) nC mC pC LT TL CA TA VA SN SC ST SV PL PR IM n (nI i) := by
  intro n
  induction n with
  | zero => intro i h; omega
  | succ n ih =>
    intro i h hi D
    rw [wX_everyMeetExists__triedLowerTypes_10]
    refine pk_le a i (fun z => ?_) (fun z => ?_)
    · have e : i = a := by omega
      subst e
      exact nm_r (nI_1 i) (K D)
    · refine ⟨vp_in_nI (by omega) (by decide), vp_in_nI (by omega) (by decide), ?_⟩
      rw [nI_clamp (show i < 2 ^ 31 by omega), nI_clamp (show a < 2 ^ 31 by omega), hl a ha, hl i (by omega)]
      have S : (lo a &&& lo i ≠ 0 → fu_mt lo a i ≠ -4) → wX_everyMeetExists__triedLowerTypes_10 post J2 (nI a) nC mC pC LT TL CA TA VA SN SC ST SV PL PR IM n (nI (i + 1)) := fun hs =>
        ih (i + 1) (by omega) (by omega) (fun b hb => by
          by_cases y : b = i
          · rw [y]; exact hs
          · exact D b (by omega))
      refine br_c (fun y => ?_) (fun y => ?_)
      · unfold wX_everyMeetExists__triedLowerTypes_30
        exact br_t rfl (nm_r (nI_1 i) (S (fun w => absurd y w)))
      · unfold wX_everyMeetExists__triedLowerTypes_30
        refine br_f (by decide) (fx_mj hl ha (by omega) ?_)
        refine br_c (fun w => K0 (fun ok => ok a i ha z y w)) (fun w => nm_r (nI_1 i) (S (fun _ => w)))
theorem fx_em2 {post : Int32 → Prop} {lo : Nat → Int32} (hl : ∀ t, t < 8 → TL t = lo t) (K : fu_okX lo → post 1) (K0 : ¬ fu_okX lo → post 0) :
    ∀ n i, 8 - i < n → i ≤ 8 → (∀ a b, a < i → b < a → lo a &&& lo b ≠ 0 → fu_mt lo a b ≠ -4) → wX_everyMeetExists__triedLowerTypes_2 post nC mC pC LT TL CA TA VA SN SC ST SV PL PR IM n (nI i) := by
  intro n
  induction n with
  | zero => intro i h; omega
  | succ n ih =>
    intro i h hi D
    rw [wX_everyMeetExists__triedLowerTypes_2]
    refine pk_le 8 i (fun z => ?_) (fun z => ?_)
    · exact K (fun a b ha hb => D a b (by omega) hb)
    · refine ⟨i + 1, fx_em10 hl z (fun hd => ?_) K0 (i + 1) 0 (by omega) (by omega) (fun b hb => by omega)⟩
      refine ih (i + 1) (by omega) (by omega) (fun a b ha hb => ?_)
      by_cases y : a = i
      · subst y; exact hd b hb
      · exact D a b (by omega) hb
theorem fx_em {post : Int32 → Prop} {lo : Nat → Int32} (hl : ∀ t, t < 8 → TL t = lo t) (K : fu_okX lo → post 1) (K0 : ¬ fu_okX lo → post 0) : wpX_everyMeetExists__triedLowerTypes post (nC, mC, pC, LT, TL, CA, TA, VA, SN, SC, ST, SV, PL, PR, IM) := by
  unfold wpX_everyMeetExists__triedLowerTypes
  exact ⟨9, fx_em2 hl K K0 9 0 (by omega) (by omega) (fun a b ha => by omega)⟩
theorem fx_un75 {post : Int32 → SX → Prop} {b : Nat} (hb : b < 8) : ∀ n i (LT : Nat → Int32), 8 - i < n → i ≤ 8 → post (nI (fu_cd (bt (fu_mp (fun j _ => TL j) i 8 LT b)) 16)) (nC, mC, pC, (fu_mp (fun j _ => TL j) i 8 LT), TL, CA, TA, VA, SN, SC, ST, SV, PL, PR, IM) → wX_under_75 post (nI b) nC mC pC n (nI i) LT TL CA TA VA SN SC ST SV PL PR IM := by
  intro n
  induction n with
  | zero => intro i LT h; omega
  | succ n ih =>
    intro i LT h hi k
    rw [wX_under_75]
    refine pk_le 8 i (fun z => ?_) (fun z => ?_)
    · rw [fu_mp_e z] at k
      refine ⟨vp_in_nI hb (by decide), ?_⟩
      rw [nI_clamp (show b < 2 ^ 31 by omega)]
      exact fx_cb k
    · refine ⟨vp_in_nI z (by decide), vp_in_nI z (by decide), ?_⟩
      rw [nI_clamp (show i < 2 ^ 31 by omega)]
      rw [← fu_mp_s (A := LT) z] at k
      exact nm_e (nm_r (nI_1 i) (ih (i + 1) _ (by omega) (by omega) k))
theorem fx_un45 {post : Int32 → SX → Prop} {lo : Nat → Int32} {a b : Nat} (hl : ∀ t, t < 8 → LT t = lo t) (ha : a < 8) (hb : b < 8)
    (K0 : ¬ fu_okX (fu_nw lo a b) → ∀ TL : Nat → Int32, post (-3) (nC, mC, pC, LT, TL, CA, TA, VA, SN, SC, ST, SV, PL, PR, IM))
    (K1 : fu_okX (fu_nw lo a b) → ∀ LT TL : Nat → Int32, (∀ t, t < 8 → LT t = fu_nw lo a b t) → post (nI (fu_cd (bt (fu_nw lo a b b)) 16)) (nC, mC, pC, LT, TL, CA, TA, VA, SN, SC, ST, SV, PL, PR, IM)) : wX_under_45 post (nI a) (nI b) 0 nC mC pC LT TL CA TA VA SN SC ST SV PL PR IM := by
  unfold wX_under_45
  refine br_t rfl (fx_tu ha hb ?_)
  have e : ∀ t, t < 8 → fu_mp (fun j _ => fu_nw LT a b j) 0 8 TL t = fu_nw lo a b t := fun t ht => by
    rw [fu_mp_in (by omega) ht]
    exact fu_nw_cg hl ha ht
  refine fx_em e (fun ok => ?_) (fun ok => br_t rfl (K0 ok _))
  have e2 : ∀ t, t < 8 → fu_mp (fun j _ => fu_mp (fun j _ => fu_nw LT a b j) 0 8 TL j) 0 8 LT t = fu_nw lo a b t := fun t ht => by
    rw [fu_mp_in (by omega) ht]
    exact e t ht
  refine br_f (by decide) ⟨9, fx_un75 hb 9 0 LT (by omega) (by omega) ?_⟩
  rw [e2 b hb]
  exact K1 ok _ _ e2
theorem fx_under {post : Int32 → SX → Prop} {lo : Nat → Int32} {a b : Nat} (hl : ∀ t, t < 8 → LT t = lo t) (ha : a < 8) (hb : b < 8)
    (Kt : a ≠ b → bt (lo a) b = true → post (-3) ((nI 0), mC, pC, LT, TL, CA, TA, VA, SN, SC, ST, SV, PL, PR, IM))
    (K0 : (a = b ∨ bt (lo a) b = false) → ¬ fu_okX (fu_nw lo a b) → ∀ TL : Nat → Int32, post (-3) ((nI 0), mC, pC, LT, TL, CA, TA, VA, SN, SC, ST, SV, PL, PR, IM))
    (K1 : (a = b ∨ bt (lo a) b = false) → fu_okX (fu_nw lo a b) → ∀ LT TL : Nat → Int32, (∀ t, t < 8 → LT t = fu_nw lo a b t) → post (nI (fu_cd (bt (fu_nw lo a b b)) 16)) ((nI 0), mC, pC, LT, TL, CA, TA, VA, SN, SC, ST, SV, PL, PR, IM)) : wpX_under post ((nI 0), mC, pC, LT, TL, CA, TA, VA, SN, SC, ST, SV, PL, PR, IM) (nI a) (nI b) := by
  unfold wpX_under
  refine fx_ty_y ha (br_f (by decide) (fx_ty_y hb (br_f (by decide) (br_t (by decide) ?_))))
  refine pk_eq a b (fun z => ?_) (fun z => ?_)
  · unfold wX_under_44
    exact fx_un45 hl ha hb (K0 (Or.inl z)) (K1 (Or.inl z))
  · refine fx_lu hb ha ?_
    rw [hl a ha]
    cases y : bt (lo a) b with
    | true =>
      refine br_f (by decide) ?_
      unfold wX_under_45
      exact br_f (by decide) (Kt z y)
    | false =>
      refine br_t rfl ?_
      unfold wX_under_44
      exact fx_un45 hl ha hb (K0 (Or.inr y)) (K1 (Or.inr y))
theorem fx_no42 {post : Int32 → SX → Prop} {cnt : Nat} (hc : cnt < 16) : ∀ n i (VA : Nat → Int32), 3 - i < n → i ≤ 3 → post (nI cnt) ((nI (cnt + 1)), mC, pC, LT, TL, CA, TA, (fu_mp (fun _ _ => -4) (3 * cnt + i) (3 * cnt + 3) VA), SN, SC, ST, SV, PL, PR, IM) → wX_node_42 post (nI cnt) nC mC pC n (nI i) LT TL CA TA VA SN SC ST SV PL PR IM := by
  intro n
  induction n with
  | zero => intro i VA h; omega
  | succ n ih =>
    intro i VA h hi k
    rw [wX_node_42]
    refine pk_le 3 i (fun z => ?_) (fun z => ?_)
    · rw [fu_mp_e (by omega)] at k
      exact nm_r (nI_1 cnt) k
    · rw [fu_a1 cnt i]
      refine ⟨vp_in_nI (by omega) (by decide), ?_⟩
      rw [nI_clamp (show 3 * cnt + i < 2 ^ 31 by omega)]
      rw [← fu_mp_s (A := VA) (show 3 * cnt + i < 3 * cnt + 3 by omega)] at k
      exact nm_e (nm_r (nI_1 i) (ih (i + 1) _ (by omega) (by omega) k))
section
variable {cnt : Nat} {c t : Nat → Nat} {v : Nat → Nat → Option Nat} {s0 : Nat}
/-- what has been looked at -/
def fu_Dn (v : Nat → Nat → Option Nat) (s w : Int32) (p i : Nat) : Prop := ∀ q f d, (q < p ∨ (q = p ∧ f < i)) → bt s q = true → f < 3 → v q f = some d → bt w d = true
theorem fu_Dn_k {s w : Int32} {p i : Nat} (D : fu_Dn v s w p i) (h : ∀ d, bt s p = true → v p i = some d → bt w d = true) : fu_Dn v s w p (i + 1) := by
  intro q f d hq hs hf hv
  by_cases z : q = p ∧ f = i
  · obtain ⟨z1, z2⟩ := z
    subst z1 z2
    exact h d hs hv
  · exact D q f d (by omega) hs hf hv
theorem fu_Dn_m {s w w' : Int32} {p i : Nat} (D : fu_Dn v s w p i) (h : ∀ i, bt w i = true → bt w' i = true) : fu_Dn v s w' p i :=
  fun q f d hq hs hf hv => h d (D q f d hq hs hf hv)
theorem fu_Dn_3 {s w : Int32} {p : Nat} (D : fu_Dn v s w p 3) : fu_Dn v s w (p + 1) 0 := by
  intro q f d hq hs hf hv
  exact D q f d (by omega) hs hf hv
theorem fx_wv15 {post : Int32 → Prop} {J4 : Int32 → Int32 → Prop} {s : Int32} {p : Nat} (W : fu_WF cnt c t v) (P : fu_PC cnt c t v CA TA VA) (I : fu_Rs cnt c v s0 s) (hp : p < cnt)
    (K : ∀ w, fu_Rs cnt c v s0 w → (∀ i, bt s i = true → bt w i = true) → fu_Dn v s w (p + 1) 0 → J4 w (nI (p + 1))) :
    ∀ n i w, 3 - i < n → i ≤ 3 → fu_Rs cnt c v s0 w → (∀ i, bt s i = true → bt w i = true) → fu_Dn v s w p i → wX_withValuesOf_15 post J4 s (nI p) (nI cnt) mC pC LT TL CA TA VA SN SC ST SV PL PR IM n w (nI i) := by
  intro n
  induction n with
  | zero => intro i w h; omega
  | succ n ih =>
    intro i w h hi J G D
    have w1 := W.1
    rw [wX_withValuesOf_15]
    refine pk_le 3 i (fun z => ?_) (fun z => ?_)
    · have e : i = 3 := by omega
      subst e
      exact nm_r (nI_1 p) (K w J G (fu_Dn_3 D))
    · rw [fu_a1 p i]
      refine ⟨vp_in_nI (by omega) (by decide), ?_⟩
      rw [nI_clamp (show 3 * p + i < 2 ^ 31 by omega)]
      refine nm_e (fx_hb (by omega) ?_)
      cases y : bt s p with
      | false => exact br_t rfl (nm_r (nI_1 i) (ih (i + 1) w (by omega) (by omega) J G (fu_Dn_k D (fun d hs _ => by rw [y] at hs; exact absurd hs (by decide)))))
      | true =>
        refine br_f (by decide) ?_
        have k := I.2 p y
        rw [P.2.2 p i hp k.2.1 z]
        cases x : v p i with
        | none => exact br_t rfl (nm_r (nI_1 i) (ih (i + 1) w (by omega) (by omega) J G (fu_Dn_k D (fun d _ hv => by rw [x] at hv; exact nomatch hv))))
        | some d =>
          have A := fu_Rsa W I J y z x
          refine br_f (fu_ne (by omega)) (nm_e (nm_r (nI_1 i) (ih (i + 1) _ (by omega) (by omega) A.1 (fun j hj => A.2.2.1 j (G j hj)) (fu_Dn_k (fu_Dn_m D A.2.2.1) (fun d2 _ hv => ?_)))))
          rw [x] at hv
          cases hv
          exact A.2.2.2
theorem fx_wv4 {post : Int32 → Prop} {s : Int32} (W : fu_WF cnt c t v) (P : fu_PC cnt c t v CA TA VA) (I : fu_Rs cnt c v s0 s)
    (K : ∀ w, fu_Rs cnt c v s0 w → (∀ i, bt s i = true → bt w i = true) → (∀ p f d, bt s p = true → f < 3 → v p f = some d → bt w d = true) → post w) :
    ∀ n p w, cnt - p < n → p ≤ cnt → fu_Rs cnt c v s0 w → (∀ i, bt s i = true → bt w i = true) → fu_Dn v s w p 0 → wX_withValuesOf_4 post s (nI cnt) mC pC LT TL CA TA VA SN SC ST SV PL PR IM n w (nI p) := by
  intro n
  induction n with
  | zero => intro p w h; omega
  | succ n ih =>
    intro p w h hp J G D
    have w1 := W.1
    rw [wX_withValuesOf_4]
    refine pk_le cnt p (fun z => ?_) (fun z => ?_)
    · exact K w J G (fun q f d hs hf hv => D q f d (Or.inl (by have := (I.2 q hs).1; omega)) hs hf hv)
    · exact ⟨4, fx_wv15 W P I z (fun w2 J2 G2 D2 => ih (p + 1) w2 (by omega) (by omega) J2 G2 D2) 4 0 w (by omega) (by omega) J G D⟩
theorem fx_wv {post : Int32 → Prop} {s : Int32} (W : fu_WF cnt c t v) (P : fu_PC cnt c t v CA TA VA) (I : fu_Rs cnt c v s0 s)
    (K : ∀ w, fu_Rs cnt c v s0 w → (∀ i, bt s i = true → bt w i = true) → (∀ p f d, bt s p = true → f < 3 → v p f = some d → bt w d = true) → post w) : wpX_withValuesOf post ((nI cnt), mC, pC, LT, TL, CA, TA, VA, SN, SC, ST, SV, PL, PR, IM) s := by
  unfold wpX_withValuesOf
  exact ⟨cnt + 1, fx_wv4 W P I K (cnt + 1) 0 s (by omega) (by omega) I (fun _ h => h) (fun q f d hq => by omega)⟩
theorem fx_re21 {post : Int32 → Prop} (W : fu_WF cnt c t v) (P : fu_PC cnt c t v CA TA VA) (K : ∀ s, fu_Rs cnt c v s0 s → fu_Rd v s → post (nI (fu_cd (bt s) 16))) :
    ∀ n i s, cnt - i < n → i ≤ cnt → fu_Rs cnt c v s0 s → fu_Rk v cnt s i → wX_reach_21 post (nI cnt) mC pC LT TL CA TA VA SN SC ST SV PL PR IM n s (nI i) := by
  intro n
  induction n with
  | zero => intro i s h; omega
  | succ n ih =>
    intro i s h hi I Q
    have w1 := W.1
    rw [wX_reach_21]
    refine pk_le cnt i (fun z => ?_) (fun z => ?_)
    · exact fx_cb (K s I (fu_Rke Q z))
    · exact fx_wv W P I (fun w J G A => nm_r (nI_1 i) (ih (i + 1) w (by omega) (by omega) J (fu_Rks I J G A Q)))
theorem fx_re {post : Int32 → Prop} {x : Nat} (W : fu_WF cnt c t v) (P : fu_PC cnt c t v CA TA VA) (hx : x < cnt) (K : ∀ s, fu_Rs cnt c v (c x) s → fu_Rd v s → post (nI (fu_cd (bt s) 16))) : wpX_reach post ((nI cnt), mC, pC, LT, TL, CA, TA, VA, SN, SC, ST, SV, PL, PR, IM) (nI x) := by
  unfold wpX_reach
  have w1 := W.1
  have w2 := W.2.1 x hx
  refine fx_no_y hx w1 (br_f (by decide) ⟨vp_in_nI (by omega) (by decide), ?_⟩)
  rw [nI_clamp (show x < 2 ^ 31 by omega), P.1 x hx]
  have I := fu_Rs0 W (x := c x) (by omega) w2.2
  exact nm_e ⟨cnt + 1, fx_re21 W P K (cnt + 1) 0 _ (by omega) (by omega) I (fu_Rk0 I)⟩
end
end
end
section
/-! X: subsumes -/
def fu_Pi (cnt : Nat) (im : Nat → Option Nat) (IM : Nat → Int32) : Prop := ∀ p, p < cnt → IM p = fu_v (im p)
theorem fu_Pi_b {cnt : Nat} {c : Nat → Nat} {im : Nat → Option Nat} (hc : cnt ≤ 16) (I : fu_Im cnt c im) (p : Nat) : ∀ k, im p = some k → k < 2 ^ 31 := by
  intro k hk
  have := (I p k hk).2.2.1
  omega
theorem fu_s1_n {v : Nat → Nat → Option Nat} {p h f : Nat} {im : Nat → Option Nat} (e : v p f = none) : fu_s1 v p h f im = some im := by
  unfold fu_s1
  rw [e]
theorem fu_s1_h {v : Nat → Nat → Option Nat} {p h f d : Nat} {im : Nat → Option Nat} (e : v p f = some d) (e2 : v h f = none) : fu_s1 v p h f im = none := by
  unfold fu_s1
  rw [e, e2]
theorem fu_s1_y {v : Nat → Nat → Option Nat} {p h f d q : Nat} {im : Nat → Option Nat} (e : v p f = some d) (e2 : v h f = some q) (z : im d = none ∨ im d = some q) : fu_s1 v p h f im = some (fun x => if x = d then some q else im x) := by
  unfold fu_s1
  rw [e, e2]
  exact if_pos z
theorem fu_s1_x {v : Nat → Nat → Option Nat} {p h f d q : Nat} {im : Nat → Option Nat} (e : v p f = some d) (e2 : v h f = some q) (z : ¬ (im d = none ∨ im d = some q)) : fu_s1 v p h f im = none := by
  unfold fu_s1
  rw [e, e2]
  exact if_neg z
theorem fu_s3_s {v : Nat → Nat → Option Nat} {p h k f : Nat} {im im' : Nat → Option Nat} (e : fu_s1 v p h f im = some im') : fu_s3 v p h (k + 1) f im = fu_s3 v p h k (f + 1) im' := by
  show (match fu_s1 v p h f im with | none => none | some im2 => fu_s3 v p h k (f + 1) im2) = _
  rw [e]
theorem fu_s3_n {v : Nat → Nat → Option Nat} {p h k f : Nat} {im : Nat → Option Nat} (e : fu_s1 v p h f im = none) : fu_s3 v p h (k + 1) f im = none := by
  show (match fu_s1 v p h f im with | none => none | some im2 => fu_s3 v p h k (f + 1) im2) = _
  rw [e]
theorem fu_sr_s {lo : Nat → Int32} {t : Nat → Nat} {v : Nat → Nat → Option Nat} {p k : Nat} {im im' : Nat → Option Nat} (e : fu_sp lo t v p im = some im') : fu_sr lo t v (k + 1) p im = fu_sr lo t v k (p + 1) im' := by
  show (match fu_sp lo t v p im with | none => none | some im2 => fu_sr lo t v k (p + 1) im2) = _
  rw [e]
theorem fu_sr_n {lo : Nat → Int32} {t : Nat → Nat} {v : Nat → Nat → Option Nat} {p k : Nat} {im : Nat → Option Nat} (e : fu_sp lo t v p im = none) : fu_sr lo t v (k + 1) p im = none := by
  show (match fu_sp lo t v p im with | none => none | some im2 => fu_sr lo t v k (p + 1) im2) = _
  rw [e]
theorem fu_sp_0 {lo : Nat → Int32} {t : Nat → Nat} {v : Nat → Nat → Option Nat} {p : Nat} {im : Nat → Option Nat} (e : im p = none) : fu_sp lo t v p im = some im := by
  unfold fu_sp
  rw [e]
theorem fu_sp_y {lo : Nat → Int32} {t : Nat → Nat} {v : Nat → Nat → Option Nat} {p h : Nat} {im : Nat → Option Nat} (e : im p = some h) (b : bt (lo (t p)) (t h) = true) : fu_sp lo t v p im = fu_s3 v p h 3 0 im := by
  unfold fu_sp
  rw [e]
  exact if_pos b
theorem fu_sp_x {lo : Nat → Int32} {t : Nat → Nat} {v : Nat → Nat → Option Nat} {p h : Nat} {im : Nat → Option Nat} (e : im p = some h) (b : bt (lo (t p)) (t h) = false) : fu_sp lo t v p im = none := by
  unfold fu_sp
  rw [e]
  exact if_neg (by rw [b]; decide)
theorem fu_it_s {F : (Nat → Option Nat) → Option (Nat → Option Nat)} {k : Nat} {s s' : Nat → Option Nat} (e : F s = some s') : fu_it F (k + 1) s = fu_it F k s' := by
  show (match F s with | none => none | some s' => fu_it F k s') = _
  rw [e]
theorem fu_it_n {F : (Nat → Option Nat) → Option (Nat → Option Nat)} {k : Nat} {s : Nat → Option Nat} (e : F s = none) : fu_it F (k + 1) s = none := by
  show (match F s with | none => none | some s' => fu_it F k s') = _
  rw [e]
/-- a new image -/
theorem fu_Pi_u {cnt d e : Nat} {im : Nat → Option Nat} {IM : Nat → Int32} (P : fu_Pi cnt im IM) : fu_Pi cnt (fun x => if x = d then some e else im x) (upd IM d (nI e)) := by
  intro p hp
  show upd IM d (nI e) p = fu_v (if p = d then some e else im p)
  by_cases z : p = d
  · rw [z, pk_us, if_pos rfl]
    rfl
  · rw [pk_un z, if_neg z]
    exact P p hp
theorem fu_Pi_k {cnt d e : Nat} {im : Nat → Option Nat} {IM : Nat → Int32} (P : fu_Pi cnt im IM) (h : im d = some e) : fu_Pi cnt (fun x => if x = d then some e else im x) IM := by
  intro p hp
  show IM p = fu_v (if p = d then some e else im p)
  by_cases z : p = d
  · rw [if_pos z, P p hp, z, h]
  · rw [if_neg z]
    exact P p hp
section
variable {nC mC pC : Int32} {LT TL CA TA VA SN SC ST SV PL PR IM : Nat → Int32}
variable {cnt : Nat} {c t : Nat → Nat} {v : Nat → Nat → Option Nat} {lo : Nat → Int32}
theorem fx_gi {post : Int32 → SX → Prop} {im : Nat → Option Nat} {d e : Nat} (hc : cnt ≤ 16) (I : fu_Im cnt c im) (P : fu_Pi cnt im IM) (hd : d < cnt) (he : e < cnt)
    (K1 : (im d = none ∨ im d = some e) → ∀ IM : Nat → Int32, fu_Pi cnt (fun x => if x = d then some e else im x) IM → post 1 (nC, mC, pC, LT, TL, CA, TA, VA, SN, SC, ST, SV, PL, PR, IM)) (K0 : ¬ (im d = none ∨ im d = some e) → post 0 (nC, mC, pC, LT, TL, CA, TA, VA, SN, SC, ST, SV, PL, PR, IM)) : wpX_giveImage post (nC, mC, pC, LT, TL, CA, TA, VA, SN, SC, ST, SV, PL, PR, IM) (nI d) (nI e) := by
  unfold wpX_giveImage
  refine br_f (fu_ne (by omega)) ⟨vp_in_nI (by omega) (by decide), ?_⟩
  rw [nI_clamp (show d < 2 ^ 31 by omega), P d hd]
  cases x : im d with
  | none =>
    refine br_t rfl ⟨vp_in_nI (by omega) (by decide), nm_e ?_⟩
    unfold wX_giveImage_26
    refine ⟨vp_in_nI (by omega) (by decide), ?_⟩
    rw [nI_clamp (show d < 2 ^ 31 by omega), pk_us]
    exact br_t rfl (K1 (Or.inl x) _ (fu_Pi_u P))
  | some q =>
    have hq := fu_Pi_b hc I d q x
    refine br_f (fu_ne hq) ?_
    unfold wX_giveImage_26
    refine ⟨vp_in_nI (by omega) (by decide), ?_⟩
    rw [nI_clamp (show d < 2 ^ 31 by omega), P d hd, x]
    refine pk_eq q e (fun z => ?_) (fun z => ?_)
    · subst z
      exact K1 (Or.inr x) IM (fu_Pi_k P x)
    · refine K0 (fun w => ?_)
      rcases w with w | w
      · rw [x] at w; exact nomatch w
      · rw [x] at w; exact z (Option.some.inj w)
theorem fx_if30 {post : Int32 → SX → Prop} {p h : Nat} (W : fu_WF cnt c t v) (Q : fu_PC cnt c t v CA TA VA) (hp : p < cnt) (ep : c p = p) (hh : h < cnt) (eh : c h = h) :
    ∀ n k i (im : Nat → Option Nat) (IM : Nat → Int32), k < n → i + k = 3 → fu_Im cnt c im → fu_Pi cnt im IM → (fu_s3 v p h k i im = none → ∀ IM : Nat → Int32, post 0 ((nI cnt), mC, pC, LT, TL, CA, TA, VA, SN, SC, ST, SV, PL, PR, IM)) →
      (∀ im', fu_s3 v p h k i im = some im' → ∀ IM : Nat → Int32, fu_Pi cnt im' IM → post 1 ((nI cnt), mC, pC, LT, TL, CA, TA, VA, SN, SC, ST, SV, PL, PR, IM)) → wX_imageFits_30 post (nI p) (nI h) n (nI i) (nI cnt) mC pC LT TL CA TA VA SN SC ST SV PL PR IM := by
  intro n
  induction n with
  | zero => intro k i im IM h; omega
  | succ n ih =>
    intro k i im IM hk hi I P K0 K1
    have w1 := W.1
    rw [wX_imageFits_30]
    refine pk_le 3 i (fun z => ?_) (fun z => ?_)
    · have e : k = 0 := by omega
      subst e
      exact K1 im rfl IM P
    · obtain ⟨k, rfl⟩ : ∃ e, k = e + 1 := ⟨k - 1, by omega⟩
      rw [fu_a1 p i, fu_a1 h i]
      refine ⟨vp_in_nI (by omega) (by decide), ?_⟩
      rw [nI_clamp (show 3 * p + i < 2 ^ 31 by omega), nI_clamp (show 3 * h + i < 2 ^ 31 by omega), Q.2.2 p i hp ep z, Q.2.2 h i hh eh z]
      refine nm_e ⟨vp_in_nI (by omega) (by decide), nm_e ?_⟩
      have go : ∀ im' (IM : Nat → Int32), fu_s1 v p h i im = some im' → fu_Pi cnt im' IM → wX_imageFits_30 post (nI p) (nI h) n (nI (i + 1)) (nI cnt) mC pC LT TL CA TA VA SN SC ST SV PL PR IM := by
        intro im' IM e P'
        rw [fu_s3_s e] at K0 K1
        exact ih k (i + 1) im' IM (by omega) (by omega) (fu_s1_ok W I hp ep hh eh z e).1 P' K0 K1
      cases x : v p i with
      | none => exact br_t rfl (nm_r (nI_1 i) (go im IM (fu_s1_n x) P))
      | some d =>
        have kd := W.2.2.2 p i d hp ep z x
        refine br_f (fu_ne (by omega)) ?_
        cases y : v h i with
        | none =>
          rw [fu_s3_n (fu_s1_h x y)] at K0
          unfold wpX_giveImage
          exact br_t rfl (br_t rfl (K0 rfl IM))
        | some e =>
          have ke := W.2.2.2 h i e hh eh z y
          refine fx_gi w1 I P kd.1 ke.1 (fun zz IM2 P2 => br_f (by decide) (nm_r (nI_1 i) (go _ IM2 (fu_s1_y x y zz) P2))) (fun zz => br_t rfl ?_)
          rw [fu_s3_n (fu_s1_x x y zz)] at K0
          exact K0 rfl IM
theorem fx_if {post : Int32 → SX → Prop} {p h : Nat} {im : Nat → Option Nat} (W : fu_WF cnt c t v) (Q : fu_PC cnt c t v CA TA VA) (hl : ∀ t, t < 8 → LT t = lo t) (I : fu_Im cnt c im) (P : fu_Pi cnt im IM) (e : im p = some h)
    (K0 : fu_sp lo t v p im = none → ∀ IM : Nat → Int32, post 0 ((nI cnt), mC, pC, LT, TL, CA, TA, VA, SN, SC, ST, SV, PL, PR, IM)) (K1 : ∀ im', fu_sp lo t v p im = some im' → ∀ IM : Nat → Int32, fu_Pi cnt im' IM → post 1 ((nI cnt), mC, pC, LT, TL, CA, TA, VA, SN, SC, ST, SV, PL, PR, IM)) : wpX_imageFits post ((nI cnt), mC, pC, LT, TL, CA, TA, VA, SN, SC, ST, SV, PL, PR, IM) (nI p) := by
  obtain ⟨hp, ep, hh, eh⟩ := I p h e
  have w1 := W.1
  have t1 := W.2.2.1 p hp ep
  have t2 := W.2.2.1 h hh eh
  unfold wpX_imageFits
  refine ⟨vp_in_nI (by omega) (by decide), ?_⟩
  rw [nI_clamp (show p < 2 ^ 31 by omega), P p hp, e]
  refine nm_e ⟨vp_in_nI (n := h) (by omega) (by decide), vp_in_nI (by omega) (by decide), ?_⟩
  show wpX_liesUnder _ _ (TA (nI h).toNatClampNeg) _
  rw [nI_clamp (show h < 2 ^ 31 by omega), Q.2.1 p hp ep, Q.2.1 h hh eh]
  refine fx_lu t2 t1 ?_
  rw [hl (t p) t1]
  cases y : bt (lo (t p)) (t h) with
  | false =>
    rw [fu_sp_x e y] at K0
    exact br_t rfl (K0 rfl IM)
  | true =>
    rw [fu_sp_y e y] at K0 K1
    exact br_f (by decide) ⟨4, fx_if30 W Q hp ep hh eh 4 3 0 im IM (by omega) (by omega) I P K0 K1⟩
theorem fx_ci2 {post : Int32 → SX → Prop} (W : fu_WF cnt c t v) (Q : fu_PC cnt c t v CA TA VA) (hl : ∀ t, t < 8 → LT t = lo t) :
    ∀ n k p (im : Nat → Option Nat) (IM : Nat → Int32), k < n → p + k = cnt → fu_Im cnt c im → fu_Pi cnt im IM → (fu_sr lo t v k p im = none → ∀ IM : Nat → Int32, post 0 ((nI cnt), mC, pC, LT, TL, CA, TA, VA, SN, SC, ST, SV, PL, PR, IM)) →
      (∀ im', fu_sr lo t v k p im = some im' → ∀ IM : Nat → Int32, fu_Pi cnt im' IM → post 1 ((nI cnt), mC, pC, LT, TL, CA, TA, VA, SN, SC, ST, SV, PL, PR, IM)) → wX_carryImagesOn_2 post n (nI p) (nI cnt) mC pC LT TL CA TA VA SN SC ST SV PL PR IM := by
  intro n
  induction n with
  | zero => intro k p im IM h; omega
  | succ n ih =>
    intro k p im IM hk hp I P K0 K1
    have w1 := W.1
    rw [wX_carryImagesOn_2]
    refine pk_le cnt p (fun z => ?_) (fun z => ?_)
    · have e : k = 0 := by omega
      subst e
      exact K1 im rfl IM P
    · obtain ⟨k, rfl⟩ : ∃ e, k = e + 1 := ⟨k - 1, by omega⟩
      refine ⟨vp_in_nI (by omega) (by decide), ?_⟩
      rw [nI_clamp (show p < 2 ^ 31 by omega), P p z]
      cases x : im p with
      | none =>
        rw [fu_sr_s (fu_sp_0 x)] at K0 K1
        exact br_t rfl (nm_r (nI_1 p) (ih k (p + 1) im IM (by omega) (by omega) I P K0 K1))
      | some h =>
        have hh := fu_Pi_b w1 I p h x
        refine br_f (fu_ne hh) (fx_if W Q hl I P x (fun e IM2 => ?_) (fun im' e IM2 P2 => ?_))
        · rw [fu_sr_n e] at K0
          exact br_t rfl (K0 rfl IM2)
        · rw [fu_sr_s e] at K0 K1
          exact br_f (by decide) (nm_r (nI_1 p) (ih k (p + 1) im' IM2 (by omega) (by omega) (fu_sp_ok W I e).1 P2 K0 K1))
theorem fx_su59 {post : Int32 → SX → Prop} (W : fu_WF cnt c t v) (Q : fu_PC cnt c t v CA TA VA) (hl : ∀ t, t < 8 → LT t = lo t) :
    ∀ n k i (im : Nat → Option Nat) (IM : Nat → Int32), k < n → i + k = cnt → fu_Im cnt c im → fu_Pi cnt im IM → (∀ IM : Nat → Int32, post (fu_b (fu_it (fu_sr lo t v cnt 0) k im).isSome) ((nI cnt), mC, pC, LT, TL, CA, TA, VA, SN, SC, ST, SV, PL, PR, IM)) → wX_subsumes_59 post n (nI i) (nI cnt) mC pC LT TL CA TA VA SN SC ST SV PL PR IM := by
  intro n
  induction n with
  | zero => intro k i im IM h; omega
  | succ n ih =>
    intro k i im IM hk hi I P K
    have w1 := W.1
    rw [wX_subsumes_59]
    refine pk_le cnt i (fun z => ?_) (fun z => ?_)
    · have e : k = 0 := by omega
      subst e
      exact K IM
    · obtain ⟨k, rfl⟩ : ∃ e, k = e + 1 := ⟨k - 1, by omega⟩
      unfold wpX_carryImagesOn
      refine ⟨cnt + 1, fx_ci2 W Q hl (cnt + 1) cnt 0 im IM (by omega) (by omega) I P (fun e IM2 => ?_) (fun im' e IM2 P2 => ?_)⟩
      · rw [fu_it_n e] at K
        exact br_t rfl (K IM2)
      · rw [fu_it_s e] at K
        exact br_f (by decide) (nm_r (nI_1 i) (ih k (i + 1) im' IM2 (by omega) (by omega) (fu_sr_ok W cnt 0 im im' I e).1 P2 K))
/-- the first images -/
def fu_i0 (x y : Nat) : Nat → Option Nat := fun p => if p = x then some y else none
theorem fu_i0_ok {x y : Nat} (hx : x < cnt) (ex : c x = x) (hy : y < cnt) (ey : c y = y) : fu_Im cnt c (fu_i0 x y) := by
  intro p h e
  unfold fu_i0 at e
  by_cases z : p = x
  · rw [if_pos z] at e
    cases e
    rw [z]
    exact ⟨hx, ex, hy, ey⟩
  · rw [if_neg z] at e
    exact nomatch e
theorem fx_su20 {post : Int32 → SX → Prop} {x y : Nat} (W : fu_WF cnt c t v) (Q : fu_PC cnt c t v CA TA VA) (hl : ∀ t, t < 8 → LT t = lo t) (hx : x < cnt) (hy : y < cnt)
    (K : ∀ IM : Nat → Int32, post (fu_b (fu_it (fu_sr lo t v cnt 0) cnt (fu_i0 (c x) (c y))).isSome) ((nI cnt), mC, pC, LT, TL, CA, TA, VA, SN, SC, ST, SV, PL, PR, IM)) :
    ∀ n i (IM : Nat → Int32), 16 - i < n → i ≤ 16 → (∀ p, p < i → IM p = -4) → wX_subsumes_20 post (nI x) (nI y) (nI cnt) mC pC n (nI i) LT TL CA TA VA SN SC ST SV PL PR IM := by
  intro n
  induction n with
  | zero => intro i IM h; omega
  | succ n ih =>
    intro i IM h hi D
    have w1 := W.1
    have wx := W.2.1 x hx
    have wy := W.2.1 y hy
    rw [wX_subsumes_20]
    refine pk_le 16 i (fun z => ?_) (fun z => ?_)
    · refine ⟨vp_in_nI (by omega) (by decide), vp_in_nI (by omega) (by decide), ?_⟩
      rw [nI_clamp (show x < 2 ^ 31 by omega), nI_clamp (show y < 2 ^ 31 by omega), Q.1 x hx, Q.1 y hy]
      refine ⟨vp_in_nI (by omega) (by decide), ?_⟩
      rw [nI_clamp (show c x < 2 ^ 31 by omega)]
      refine nm_e ⟨cnt + 1, fx_su59 W Q hl (cnt + 1) cnt 0 (fu_i0 (c x) (c y)) _ (by omega) (by omega) (fu_i0_ok (by omega) wx.2 (by omega) wy.2) (fun p hp => ?_) K⟩
      unfold fu_i0
      by_cases w : p = c x
      · rw [w, pk_us, if_pos rfl]
        rfl
      · rw [pk_un w, if_neg w, D p (by omega)]
        rfl
    · refine ⟨vp_in_nI z (by decide), ?_⟩
      rw [nI_clamp (show i < 2 ^ 31 by omega)]
      refine nm_e (nm_r (nI_1 i) (ih (i + 1) _ (by omega) (by omega) (fun p hp => ?_)))
      by_cases w : p = i
      · rw [w, pk_us]
      · rw [pk_un w]
        exact D p (by omega)
theorem fx_su {post : Int32 → SX → Prop} {x y : Nat} (W : fu_WF cnt c t v) (Q : fu_PC cnt c t v CA TA VA) (hl : ∀ t, t < 8 → LT t = lo t) (hx : x < cnt) (hy : y < cnt)
    (K : ∀ IM : Nat → Int32, post (fu_b (fu_it (fu_sr lo t v cnt 0) cnt (fu_i0 (c x) (c y))).isSome) ((nI cnt), mC, pC, LT, TL, CA, TA, VA, SN, SC, ST, SV, PL, PR, IM)) : wpX_subsumes post ((nI cnt), mC, pC, LT, TL, CA, TA, VA, SN, SC, ST, SV, PL, PR, IM) (nI x) (nI y) := by
  unfold wpX_subsumes
  exact fx_no_y hx W.1 (br_f (by decide) (fx_no_y hy W.1 (br_f (by decide) ⟨17, fx_su20 W Q hl hx hy K 17 0 IM (by omega) (by omega) (fun p hp => by omega)⟩)))
end
end
section
/-! Y: small methods, under -/
theorem fu_ors (x : Int32) : x ||| x = x := b_ext fun i _ => by rw [b_or, Bool.or_self]
theorem fu_nIb (k : Nat) (b : Bool) : nI k + fu_b b = nI (k + (if b = true then 1 else 0)) := by
  cases b with
  | true => exact nI_1 k
  | false => exact Int32.add_zero _
section
variable {cn mk : Int32} {BE CL TY VL FR IG PE KE : Nat → Int32}
theorem fy_ty_n {post : Int32 → Prop} {x : Int32} (h : x < 0 ∨ nI 8 ≤ x) (k : post 0) : wpY_isType post (cn, mk, BE, CL, TY, VL, FR, IG, PE, KE) x := by
  unfold wpY_isType
  by_cases z : x < 0
  · exact br_t z k
  · refine br_f z (br_t ?_ k)
    have h := h.resolve_left z
    obtain ⟨j, hj, rfl⟩ := nI_of z
    rw [nI_leI (by omega) hj] at h
    exact nI_lt (a := 7) (by omega) hj
theorem fy_ty_y {post : Int32 → Prop} {j : Nat} (h : j < 8) (k : post 1) : wpY_isType post (cn, mk, BE, CL, TY, VL, FR, IG, PE, KE) (nI j) := by
  unfold wpY_isType
  exact br_f (nI_pos (by omega)) (br_f (nI_nlt (b := j) (a := 7) (by omega) (by decide)) k)
theorem fy_no_n {post : Int32 → Prop} {x : Int32} (h : x < 0 ∨ cn ≤ x) (k : post 0) : wpY_isNode post (cn, mk, BE, CL, TY, VL, FR, IG, PE, KE) x := by
  unfold wpY_isNode
  by_cases z : x < 0
  · exact br_t z k
  · exact br_f z (br_t (h.resolve_left z) k)
theorem fy_no_y {post : Int32 → Prop} {j cnt : Nat} (h : j < cnt) (hc : cnt ≤ 16) (k : post 1) : wpY_isNode post ((nI cnt), mk, BE, CL, TY, VL, FR, IG, PE, KE) (nI j) := by
  unfold wpY_isNode
  exact br_f (nI_pos (by omega)) (br_f (nI_ge h (by omega)) k)
theorem fy_ha {post : Int32 → Prop} {x : Int32} {i : Nat} (hi : i < 32) (k : post (fu_b (bt x i))) : wpY_has post (cn, mk, BE, CL, TY, VL, FR, IG, PE, KE) x (nI i) := by
  unfold wpY_has
  dsimp only
  rw [fu_bit x hi]
  cases h : bt x i with
  | true =>
    rw [h] at k
    exact br_t rfl k
  | false =>
    rw [h] at k
    exact br_f (by decide) k
theorem fy_gr2 {post : Int32 → Prop} {x : Int32} : ∀ n d i, d < n → i + d = 8 → post (fu_sc (fun t => bt x t && decide (BE t &&& x = x)) d i) → wY_greatest_2 post x cn mk BE CL TY VL FR IG PE KE n (nI i) := by
  intro n
  induction n with
  | zero => intro d i h; omega
  | succ n ih =>
    intro d i h hi k
    rw [wY_greatest_2]
    refine pk_le 8 i (fun z => ?_) (fun z => ?_)
    · have e : d = 0 := by omega
      subst e
      exact k
    · obtain ⟨d, rfl⟩ : ∃ e, d = e + 1 := ⟨d - 1, by omega⟩
      refine fy_ha (by omega) ?_
      cases hb : bt x i with
      | false =>
        rw [fu_sc_f (by rw [hb]; rfl)] at k
        exact br_t rfl (nm_r (nI_1 i) (ih d (i + 1) (by omega) (by omega) k))
      | true =>
        refine br_f (by decide) ⟨vp_in_nI z (by decide), ?_⟩
        rw [nI_clamp (show i < 2 ^ 31 by omega)]
        refine br_c (fun y => ?_) (fun y => nm_r (nI_1 i) ?_)
        · rw [fu_sc_t (by rw [hb, decide_eq_true y]; rfl)] at k
          exact k
        · rw [fu_sc_f (by rw [hb, decide_eq_false y]; rfl)] at k
          exact ih d (i + 1) (by omega) (by omega) k
theorem fy_gr {post : Int32 → Prop} {lo : Nat → Int32} {x : Int32} (hl : ∀ t, t < 8 → BE t = lo t) (k : post (fu_gr lo x)) : wpY_greatest post (cn, mk, BE, CL, TY, VL, FR, IG, PE, KE) x := by
  unfold wpY_greatest
  refine ⟨9, fy_gr2 9 8 0 (by omega) (by omega) ?_⟩
  have e : fu_sc (fun t => bt x t && decide (BE t &&& x = x)) 8 0 = fu_gr lo x := fu_sc_cg 8 0 fun t _ ht => by rw [hl t (by omega)]
  rw [e]
  exact k
def fu_bad (lo : Nat → Int32) (a b : Nat) : Prop := (a ≠ b ∧ bt (lo a) b = true ∧ bt (lo b) a = true) ∨ (lo a &&& lo b ≠ 0 ∧ fu_gr lo (lo a &&& lo b) = -4)
theorem fy_fi63 {post J2 J10 : Int32 → Prop} {lo : Nat → Int32} {a b : Nat} {x : Int32} (hl : ∀ t, t < 8 → BE t = lo t) (ex : x = lo a &&& lo b) (K : ¬ (lo a &&& lo b ≠ 0 ∧ fu_gr lo (lo a &&& lo b) = -4) → J10 (nI (b + 1))) (K0 : (lo a &&& lo b ≠ 0 ∧ fu_gr lo (lo a &&& lo b) = -4) → post 0) : wY_isFit_63 post J2 J10 (nI a) (nI b) x cn mk BE CL TY VL FR IG PE KE := by
  subst ex
  unfold wY_isFit_63
  refine br_c (fun y => nm_r (nI_1 b) (K (fun w => w.1 y))) (fun y => fy_gr hl (br_c (fun w => K0 ⟨y, w⟩) (fun w => nm_r (nI_1 b) (K (fun u => w u.2)))))
theorem fy_fi10 {post J2 : Int32 → Prop} {lo : Nat → Int32} {a : Nat} (hl : ∀ t, t < 8 → BE t = lo t) (ha : a < 8) (K : (∀ b, b < 8 → ¬ fu_bad lo a b) → J2 (nI (a + 1))) (K0 : ¬ fu_okY lo → post 0) :
    ∀ n i, 8 - i < n → i ≤ 8 → (∀ b, b < i → ¬ fu_bad lo a b) → wY_isFit_10 post J2 (nI a) cn mk BE CL TY VL FR IG PE KE n (nI i) := by
  intro n
  induction n with
  | zero => intro i h; omega
  | succ n ih =>
    intro i h hi D
    rw [wY_isFit_10]
    refine pk_le 8 i (fun z => ?_) (fun z => ?_)
    · exact nm_r (nI_1 a) (K (fun b hb => D b (by omega)))
    · refine ⟨vp_in_nI ha (by decide), vp_in_nI z (by decide), ?_⟩
      rw [nI_clamp (show i < 2 ^ 31 by omega), nI_clamp (show a < 2 ^ 31 by omega), hl a ha, hl i z]
      have S : ¬ fu_bad lo a i → wY_isFit_10 post J2 (nI a) cn mk BE CL TY VL FR IG PE KE n (nI (i + 1)) := fun hs =>
        ih (i + 1) (by omega) (by omega) (fun b hb => by
          by_cases y : b = i
          · rw [y]; exact hs
          · exact D b (by omega))
      have N : fu_bad lo a i → post 0 := fun hb => K0 (fun ok => ok a i ha z hb)
      have M : ¬ (a ≠ i ∧ bt (lo a) i = true ∧ bt (lo i) a = true) → wY_isFit_63 post J2 (wY_isFit_10 post J2 (nI a) cn mk BE CL TY VL FR IG PE KE n) (nI a) (nI i) (lo a &&& lo i) cn mk BE CL TY VL FR IG PE KE := fun hm =>
        fy_fi63 hl rfl (fun hk => S (fun w => w.elim hm hk)) (fun hk => N (Or.inr hk))
      refine nm_e (pk_eq a i (fun y => M (fun w => w.1 y)) (fun y => ⟨vp_in_nI ha (by decide), fy_ha (by omega) ?_⟩))
      cases x : bt (lo a) i with
      | false => exact br_t rfl (M (fun w => by rw [x] at w; exact absurd w.2.1 (by decide)))
      | true =>
        refine br_f (by decide) ⟨vp_in_nI z (by decide), fy_ha (by omega) ?_⟩
        cases u : bt (lo i) a with
        | false => exact br_t rfl (M (fun w => by rw [u] at w; exact absurd w.2.2 (by decide)))
        | true => exact br_f (by decide) (N (Or.inl ⟨y, x, u⟩))
theorem fy_fi2 {post : Int32 → Prop} {lo : Nat → Int32} (hl : ∀ t, t < 8 → BE t = lo t) (K : fu_okY lo → post 1) (K0 : ¬ fu_okY lo → post 0) :
    ∀ n i, 8 - i < n → i ≤ 8 → (∀ a b, a < i → b < 8 → ¬ fu_bad lo a b) → wY_isFit_2 post cn mk BE CL TY VL FR IG PE KE n (nI i) := by
  intro n
  induction n with
  | zero => intro i h; omega
  | succ n ih =>
    intro i h hi D
    rw [wY_isFit_2]
    refine pk_le 8 i (fun z => ?_) (fun z => ?_)
    · exact K (fun a b ha hb => D a b (by omega) hb)
    · refine ⟨9, fy_fi10 hl z (fun hd => ?_) K0 9 0 (by omega) (by omega) (fun b hb => by omega)⟩
      refine ih (i + 1) (by omega) (by omega) (fun a b ha hb => ?_)
      by_cases y : a = i
      · subst y; exact hd b hb
      · exact D a b (by omega) hb
theorem fy_fi {post : Int32 → Prop} {lo : Nat → Int32} (hl : ∀ t, t < 8 → BE t = lo t) (K : fu_okY lo → post 1) (K0 : ¬ fu_okY lo → post 0) : wpY_isFit post (cn, mk, BE, CL, TY, VL, FR, IG, PE, KE) := by
  unfold wpY_isFit
  exact ⟨9, fy_fi2 hl K K0 9 0 (by omega) (by omega) (fun a b ha => by omega)⟩
def fu_px (la : Int32) (b : Nat) : Nat → Int32 → Int32 := fun _ x => if bt x b = true then x ||| la else x
theorem fy_pu2 {post : SY → Prop} {a b : Nat} {la : Int32} (ha : a < 8) (hb : b < 8) : ∀ n i (BE : Nat → Int32), 8 - i < n → i ≤ 8 → BE a = la → post (cn, mk, (fu_mp (fu_px la b) i 8 BE), CL, TY, VL, FR, IG, PE, KE) → wY_putUnder_2 post (nI a) (nI b) cn mk n (nI i) BE CL TY VL FR IG PE KE := by
  intro n
  induction n with
  | zero => intro i BE h; omega
  | succ n ih =>
    intro i BE h hi hla k
    rw [wY_putUnder_2]
    refine pk_le 8 i (fun z => ?_) (fun z => ?_)
    · rw [fu_mp_e z] at k
      exact k
    · refine ⟨vp_in_nI z (by decide), ?_⟩
      rw [nI_clamp (show i < 2 ^ 31 by omega), nI_clamp (show a < 2 ^ 31 by omega)]
      refine fy_ha (by omega) ?_
      cases y : bt (BE i) b with
      | true =>
        have e : fu_px la b i (BE i) = BE i ||| BE a := by
          rw [hla]
          exact if_pos y
        rw [← fu_mp_s (A := BE) z, e] at k
        refine br_f (by decide) ⟨vp_in_nI z (by decide), vp_in_nI ha (by decide), vp_in_nI z (by decide), nm_e (nm_r (nI_1 i) (ih (i + 1) _ (by omega) (by omega) ?_ k))⟩
        by_cases w : a = i
        · rw [← w, pk_us, hla, fu_ors]
        · rw [pk_un w, hla]
      | false =>
        rw [← fu_mp_k (show fu_px la b i (BE i) = BE i from if_neg (by rw [y]; decide))] at k
        exact br_t rfl (nm_r (nI_1 i) (ih (i + 1) _ (by omega) (by omega) hla k))
theorem fy_pu {post : SY → Prop} {a b : Nat} (ha : a < 8) (hb : b < 8) (k : post (cn, mk, (fu_mp (fu_px (BE a) b) 0 8 BE), CL, TY, VL, FR, IG, PE, KE)) : wpY_putUnder post (cn, mk, BE, CL, TY, VL, FR, IG, PE, KE) (nI a) (nI b) := by
  unfold wpY_putUnder
  exact ⟨9, fy_pu2 ha hb 9 0 BE (by omega) (by omega) rfl k⟩
theorem fy_sz4 {post : Int32 → Prop} {x : Int32} (k : post (nI (fu_cd (bt x) 16))) : ∀ n i, 16 - i < n → i ≤ 16 → wY_sizeOf_4 post x cn mk BE CL TY VL FR IG PE KE n (nI (fu_cd (bt x) i)) (nI i) := by
  intro n
  induction n with
  | zero => intro i h; omega
  | succ n ih =>
    intro i h hi
    rw [wY_sizeOf_4]
    refine pk_le 16 i (fun z => ?_) (fun z => ?_)
    · have e : i = 16 := by omega
      subst e
      exact k
    · rw [fu_bit x (show i < 32 by omega), fu_nIb]
      exact nm_e (nm_r (nI_1 i) (ih (i + 1) (by omega) (by omega)))
theorem fy_sz {post : Int32 → Prop} {x : Int32} (k : post (nI (fu_cd (bt x) 16))) : wpY_sizeOf post (cn, mk, BE, CL, TY, VL, FR, IG, PE, KE) x := by
  unfold wpY_sizeOf
  exact ⟨17, fy_sz4 k 17 0 (by omega) (by omega)⟩
theorem fy_un80 {post : Int32 → SY → Prop} : ∀ n i (BE : Nat → Int32), 8 - i < n → i ≤ 8 → post (-3) (cn, mk, (fu_mp (fun j _ => FR j) i 8 BE), CL, TY, VL, FR, IG, PE, KE) → wY_under_80 post cn mk n (nI i) BE CL TY VL FR IG PE KE := by
  intro n
  induction n with
  | zero => intro i BE h; omega
  | succ n ih =>
    intro i BE h hi k
    rw [wY_under_80]
    refine pk_le 8 i (fun z => ?_) (fun z => ?_)
    · rw [fu_mp_e z] at k
      exact k
    · refine ⟨vp_in_nI (by omega) (by decide), vp_in_nI z (by decide), ?_⟩
      rw [nI_clamp (show i < 2 ^ 31 by omega)]
      rw [← fu_mp_s (A := BE) z] at k
      exact nm_e (nm_r (nI_1 i) (ih (i + 1) _ (by omega) (by omega) k))
theorem fy_un30 {post : Int32 → SY → Prop} {lo : Nat → Int32} {a b : Nat} (hl : ∀ t, t < 8 → BE t = lo t) (ha : a < 8) (hb : b < 8)
    (K0 : ¬ fu_okY (fu_nw lo a b) → ∀ BE FR : Nat → Int32, (∀ t, t < 8 → BE t = lo t) → post (-3) (cn, mk, BE, CL, TY, VL, FR, IG, PE, KE))
    (K1 : fu_okY (fu_nw lo a b) → ∀ BE FR : Nat → Int32, (∀ t, t < 8 → BE t = fu_nw lo a b t) → post (nI (fu_cd (bt (fu_nw lo a b b)) 16)) (cn, mk, BE, CL, TY, VL, FR, IG, PE, KE)) :
    ∀ n i (FR : Nat → Int32), 8 - i < n → i ≤ 8 → (∀ j, j < i → FR j = BE j) → wY_under_30 post (nI a) (nI b) cn mk n (nI i) BE CL TY VL FR IG PE KE := by
  intro n
  induction n with
  | zero => intro i FR h; omega
  | succ n ih =>
    intro i FR h hi D
    rw [wY_under_30]
    refine pk_le 8 i (fun z => ?_) (fun z => ?_)
    · refine fy_pu ha hb ?_
      have e : ∀ t, t < 8 → fu_mp (fu_px (BE a) b) 0 8 BE t = fu_nw lo a b t := fun t ht => by
        rw [fu_mp_in (by omega) ht, hl t ht, hl a ha]
        rfl
      refine fy_fi e (fun ok => ?_) (fun ok => ?_)
      · refine br_f (by decide) ⟨vp_in_nI hb (by decide), ?_⟩
        rw [nI_clamp (show b < 2 ^ 31 by omega), e b hb]
        exact fy_sz (K1 ok _ _ e)
      · refine br_t rfl ⟨9, fy_un80 9 0 _ (by omega) (by omega) (K0 ok _ _ (fun t ht => ?_))⟩
        rw [fu_mp_in (by omega) ht, D t (by omega), hl t ht]
    · refine ⟨vp_in_nI z (by decide), vp_in_nI (by omega) (by decide), ?_⟩
      rw [nI_clamp (show i < 2 ^ 31 by omega)]
      refine nm_e (nm_r (nI_1 i) (ih (i + 1) _ (by omega) (by omega) (fun j hj => ?_)))
      by_cases w : j = i
      · rw [w, pk_us]
      · rw [pk_un w]
        exact D j (by omega)
theorem fy_under {post : Int32 → SY → Prop} {lo : Nat → Int32} {a b : Nat} (hl : ∀ t, t < 8 → BE t = lo t) (ha : a < 8) (hb : b < 8)
    (K0 : ¬ fu_okY (fu_nw lo a b) → ∀ BE FR : Nat → Int32, (∀ t, t < 8 → BE t = lo t) → post (-3) ((nI 0), mk, BE, CL, TY, VL, FR, IG, PE, KE))
    (K1 : fu_okY (fu_nw lo a b) → ∀ BE FR : Nat → Int32, (∀ t, t < 8 → BE t = fu_nw lo a b t) → post (nI (fu_cd (bt (fu_nw lo a b b)) 16)) ((nI 0), mk, BE, CL, TY, VL, FR, IG, PE, KE)) : wpY_under post ((nI 0), mk, BE, CL, TY, VL, FR, IG, PE, KE) (nI a) (nI b) := by
  unfold wpY_under
  exact fy_ty_y ha (br_f (by decide) (fy_ty_y hb (br_f (by decide) (br_t (by decide) ⟨9, fy_un30 hl ha hb K0 K1 9 0 FR (by omega) (by omega) (fun j hj => by omega)⟩))))
theorem fy_cl4 {post : Int32 → Prop} {cnt : Nat} {c : Nat → Nat} (hc : cnt ≤ 16) (hl : ∀ p, p < cnt → c p ≤ p) (hp : ∀ p, p < cnt → CL p = nI (c p)) (k : post (nI (fu_ld c cnt))) : ∀ n i, cnt - i < n → i ≤ cnt → wY_classes_4 post (nI cnt) mk BE CL TY VL FR IG PE KE n (nI (fu_ld c i)) (nI i) := by
  intro n
  induction n with
  | zero => intro i h; omega
  | succ n ih =>
    intro i h hi
    rw [wY_classes_4]
    refine pk_le cnt i (fun z => ?_) (fun z => ?_)
    · have e : i = cnt := by omega
      subst e
      exact k
    · refine ⟨vp_in_nI (by omega) (by decide), ?_⟩
      rw [nI_clamp (show i < 2 ^ 31 by omega), hp i z]
      have H := ih (i + 1) (by omega) (by omega)
      have hz := hl i z
      unfold fu_ld at H ⊢
      refine pk_eq (c i) i (fun y => ?_) (fun y => ?_)
      · rw [fu_cd_t (decide_eq_true y)] at H
        exact nm_r (nI_1 _) (nm_r (nI_1 _) H)
      · rw [fu_cd_f (decide_eq_false y)] at H
        exact nm_r (nI_1 _) H
theorem fy_cl {post : Int32 → Prop} {cnt : Nat} {c : Nat → Nat} (hc : cnt ≤ 16) (hl : ∀ p, p < cnt → c p ≤ p) (hp : ∀ p, p < cnt → CL p = nI (c p)) (k : post (nI (fu_ld c cnt))) : wpY_classes post ((nI cnt), mk, BE, CL, TY, VL, FR, IG, PE, KE) := by
  unfold wpY_classes
  exact ⟨cnt + 1, fy_cl4 hc hl hp k (cnt + 1) 0 (by omega) (by omega)⟩
end
end
section
/-! Y: merge, mergeValues, mergeMore, lowerOf, tryUnify -/
section
variable {cn mk : Int32} {BE CL TY VL FR IG PE KE : Nat → Int32}
variable {cnt : Nat} {c t : Nat → Nat} {v : Nat → Nat → Option Nat} {lo : Nat → Int32} {n m : Nat}
theorem fy_mg66 {post : Int32 → SY → Prop} {l h : Nat} (hc : cnt ≤ 16) (bl : l < 2 ^ 31) (bh : h < 2 ^ 31) : ∀ k i (FR : Nat → Int32), cnt - i < k → i ≤ cnt → post (fu_b (!decide (l = h))) ((nI cnt), mk, BE, CL, TY, VL, (fu_mp (fu_rx h l) i cnt FR), IG, PE, KE) → wY_merge_66 post (nI l) (nI h) (nI cnt) mk k (nI i) BE CL TY VL FR IG PE KE := by
  intro k
  induction k with
  | zero => intro i FR h; omega
  | succ k ih =>
    intro i FR hk hi K
    rw [wY_merge_66]
    refine pk_le cnt i (fun z => ?_) (fun z => ?_)
    · rw [fu_mp_e z] at K
      refine pk_eq l h (fun y => ?_) (fun y => ?_)
      · rw [decide_eq_true y] at K
        exact K
      · rw [decide_eq_false y] at K
        exact K
    · refine ⟨vp_in_nI (by omega) (by decide), ?_⟩
      rw [nI_clamp (show i < 2 ^ 31 by omega)]
      rw [← fu_mp_s (A := FR) z] at K
      refine br_c (fun y => ⟨vp_in_nI (by omega) (by decide), nm_e (nm_r (nI_1 i) (ih (i + 1) _ (by omega) (by omega) ?_))⟩) (fun y => ⟨vp_in_nI (by omega) (by decide), vp_in_nI (by omega) (by decide), nm_e (nm_r (nI_1 i) (ih (i + 1) _ (by omega) (by omega) ?_))⟩)
      · rw [show fu_rx h l i (FR i) = nI l from if_pos y] at K
        exact K
      · rw [show fu_rx h l i (FR i) = FR i from if_neg y] at K
        exact K
theorem fy_mg {post : Int32 → SY → Prop} {g : Nat → Nat} {x y : Nat} (hc : cnt ≤ 16) (hg : ∀ p, p < cnt → g p ≤ p) (F : ∀ p, p < cnt → FR p = nI (g p)) (hx : x < cnt) (hy : y < cnt)
    (K : ∀ FR : Nat → Int32, (∀ p, p < cnt → FR p = nI (fu_un g x y p)) → post (fu_b (!decide (g x = g y))) ((nI cnt), mk, BE, CL, TY, VL, FR, IG, PE, KE)) : wpY_merge post ((nI cnt), mk, BE, CL, TY, VL, FR, IG, PE, KE) (nI x) (nI y) := by
  have bx := hg x hx
  have by' := hg y hy
  have M : ∀ l h, l = fu_lw (g x) (g y) → h = fu_hi (g x) (g y) → ∃ n66, wY_merge_66 post (nI l) (nI h) (nI cnt) mk n66 (nI 0) BE CL TY VL FR IG PE KE := by
    intro l h el eh
    have q := fu_hl (g x) (g y)
    refine ⟨cnt + 1, fy_mg66 hc (by omega) (by omega) (cnt + 1) 0 FR (by omega) (by omega) ?_⟩
    have e : decide (l = h) = decide (g x = g y) := by
      by_cases w : g x = g y
      · rw [decide_eq_true w, decide_eq_true (by omega)]
      · rw [decide_eq_false w, decide_eq_false (by omega)]
    rw [e]
    refine K _ (fun p hp => ?_)
    have bp := hg p hp
    rw [fu_mp_in (by omega) hp, F p hp, fu_rx_c (by omega) (by omega), el, eh]
    rfl
  unfold wpY_merge
  refine ⟨vp_in_nI (by omega) (by decide), vp_in_nI (by omega) (by decide), ?_⟩
  rw [nI_clamp (show x < 2 ^ 31 by omega), nI_clamp (show y < 2 ^ 31 by omega), F x hx, F y hy]
  refine pk_le (g y) (g x) (fun z => ⟨vp_in_nI (by omega) (by decide), ?_⟩) (fun z => ⟨vp_in_nI (by omega) (by decide), ?_⟩)
  · unfold wY_merge_30
    refine ⟨vp_in_nI (by omega) (by decide), vp_in_nI (by omega) (by decide), ?_⟩
    rw [nI_clamp (show x < 2 ^ 31 by omega), nI_clamp (show y < 2 ^ 31 by omega), F x hx, F y hy]
    refine br_t (nI_le z (by omega)) ⟨vp_in_nI (by omega) (by decide), nm_e (M _ _ ?_ ?_)⟩
    · unfold fu_lw
      rw [if_neg (by omega)]
    · unfold fu_hi
      rw [if_neg (by omega)]
  · unfold wY_merge_30
    refine ⟨vp_in_nI (by omega) (by decide), vp_in_nI (by omega) (by decide), ?_⟩
    rw [nI_clamp (show x < 2 ^ 31 by omega), nI_clamp (show y < 2 ^ 31 by omega), F x hx, F y hy]
    refine br_f (nI_ge z (by omega)) ⟨vp_in_nI (by omega) (by decide), nm_e (M _ _ ?_ ?_)⟩
    · unfold fu_lw
      rw [if_pos z]
    · unfold fu_hi
      rw [if_pos z]
theorem fy_mv5 {post : Int32 → SY → Prop} {g0 : Nat → Nat} {p q : Nat} (W : fu_WF cnt c t v) (P : fu_PC cnt c t v CL TY VL) (I0 : fu_Y cnt c v n m g0) (hp : p < cnt) (hq : q < cnt) (ep : c p = p) (eq : c q = q)
    (K : ∀ (g : Nat → Nat) (b : Bool) (FR : Nat → Int32), fu_R cnt c v n m g0 g b (fun p' q' _ => p' = p ∧ q' = q) → (∀ p, p < cnt → FR p = nI (g p)) → post (fu_b b) ((nI cnt), mk, BE, CL, TY, VL, FR, IG, PE, KE)) :
    ∀ k i (g : Nat → Nat) (b : Bool) (FR : Nat → Int32), 3 - i < k → i ≤ 3 → fu_R cnt c v n m g0 g b (fun p' q' f => p' = p ∧ q' = q ∧ f < i) → (∀ p, p < cnt → FR p = nI (g p)) → wY_mergeValues_5 post (nI p) (nI q) k (fu_b b) (nI i) (nI cnt) mk BE CL TY VL FR IG PE KE := by
  intro k
  induction k with
  | zero => intro i g b FR h; omega
  | succ k ih =>
    intro i g b FR hk hi I F
    have w1 := W.1
    have i1 := I.1.1
    rw [wY_mergeValues_5]
    refine pk_le 3 i (fun z => ?_) (fun z => ?_)
    · refine ⟨fu_nb b, K g b FR (fu_R_D I (fun _ p' q' f hD _ _ hf _ _ _ d e _ _ => Or.inl ⟨hD.1, hD.2, by omega⟩) W) F⟩
    · rw [fu_a2 p i, fu_a2 q i]
      refine ⟨vp_in_nI (by omega) (by decide), ?_⟩
      rw [nI_clamp (show 3 * p + i < 2 ^ 31 by omega), nI_clamp (show 3 * q + i < 2 ^ 31 by omega), P.2.2 p i hp ep z, P.2.2 q i hq eq z]
      refine nm_e ⟨vp_in_nI (by omega) (by decide), nm_e ⟨vp_in_nI (by omega) (by decide), vp_in_nI (by omega) (by decide), ?_⟩⟩
      rw [nI_clamp (show p < 2 ^ 31 by omega), nI_clamp (show q < 2 ^ 31 by omega), F p hp, F q hq]
      have bp := (i1 p hp).1
      have bq := (i1 q hq).1
      have S : (∀ d e, g p = g q → v p i = some d → v q i = some e → False) → wY_mergeValues_5 post (nI p) (nI q) k (fu_b b) (nI (i + 1)) (nI cnt) mk BE CL TY VL FR IG PE KE := fun hs => by
        refine ih (i + 1) g b FR (by omega) (by omega) (fu_R_D I (fun _ p' q' f hD _ _ hf _ _ hg d e hd he => ?_) W) F
        obtain ⟨x1, x2, x3⟩ := hD
        subst x1 x2
        by_cases w : f = i
        · subst w
          exact (hs d e hg hd he).elim
        · exact Or.inl ⟨rfl, rfl, by omega⟩
      refine pk_eq (g p) (g q) (fun y => ?_) (fun y => nm_r (nI_1 i) (S (fun _ _ h _ _ => y h)))
      cases x : v p i with
      | none => exact br_t rfl (nm_r (nI_1 i) (S (fun d e _ hd _ => by rw [x] at hd; exact nomatch hd)))
      | some d =>
        have kd := W.2.2.2 p i d hp ep z x
        refine br_f (fu_ne (by omega)) ?_
        cases u : v q i with
        | none => exact br_t rfl (nm_r (nI_1 i) (S (fun d e _ _ he => by rw [u] at he; exact nomatch he)))
        | some e =>
          have ke := W.2.2.2 q i e hq eq z u
          refine br_f (fu_ne (by omega)) ?_
          have snd : ∀ h, fu_Cg cnt c v n m h → h d = h e := by
            intro h H
            refine H.2.2 p q i d e hp hq z ep eq ?_ x u
            rw [← I.1.2.2 h H p hp, ← I.1.2.2 h H q hq, y]
          refine fy_mg (g := g) w1 (fun p hp => (i1 p hp).1) F kd.1 ke.1 (fun FR2 F2 => ?_)
          have J := fu_R_u (D := fun p' q' f => p' = p ∧ q' = q ∧ f = i) I.1 kd.1 ke.1 snd (fun p' q' f d' e' hD h1 h2 => by
            obtain ⟨x1, x2, x3⟩ := hD
            subst x1 x2 x3
            rw [x] at h1
            rw [u] at h2
            cases h1
            cases h2
            exact ⟨rfl, rfl⟩)
          have R2 := fu_R_D (D2 := fun p' q' f => p' = p ∧ q' = q ∧ f < i + 1) (fu_R_c W I0 I J) (fun _ p' q' f hD _ _ hf _ _ hg d e hd he => by
            obtain ⟨x1, x2, x3⟩ := hD
            by_cases w : f = i
            · exact Or.inl (Or.inr ⟨x1, x2, w⟩)
            · exact Or.inl (Or.inl ⟨x1, x2, by omega⟩)) W
          by_cases w : g d = g e
          · rw [decide_eq_true w] at R2 ⊢
            refine br_t rfl (nm_r (nI_1 i) (ih (i + 1) _ b FR2 (by omega) (by omega) ?_ F2))
            rw [show (b || !true) = b by cases b <;> rfl] at R2
            exact R2
          · rw [decide_eq_false w] at R2 ⊢
            refine br_f (by decide) (nm_r (nI_1 i) (ih (i + 1) _ true FR2 (by omega) (by omega) ?_ F2))
            rw [show (b || !false) = true by cases b <;> rfl] at R2
            exact R2
theorem fy_mm14 {post : Int32 → SY → Prop} {J4 : Int32 → Int32 → Int32 → Int32 → (Nat → Int32) → (Nat → Int32) → (Nat → Int32) → (Nat → Int32) → (Nat → Int32) → (Nat → Int32) → (Nat → Int32) → (Nat → Int32) → Prop} {g0 : Nat → Nat} {p : Nat} (W : fu_WF cnt c t v) (P : fu_PC cnt c t v CL TY VL) (I0 : fu_Y cnt c v n m g0) (hp : p < cnt)
    (K : ∀ (g : Nat → Nat) (b : Bool) (FR : Nat → Int32), fu_R cnt c v n m g0 g b (fun p' q' _ => q' < p' ∧ p' < p + 1) → (∀ p, p < cnt → FR p = nI (g p)) → J4 (fu_b b) (nI (p + 1)) (nI cnt) mk BE CL TY VL FR IG PE KE) :
    ∀ k i (g : Nat → Nat) (b : Bool) (FR : Nat → Int32), p - i < k → i ≤ p → fu_R cnt c v n m g0 g b (fun p' q' _ => q' < p' ∧ (p' < p ∨ (p' = p ∧ q' < i))) → (∀ p, p < cnt → FR p = nI (g p)) → wY_mergeMore_14 post J4 (nI p) k (fu_b b) (nI i) (nI cnt) mk BE CL TY VL FR IG PE KE := by
  intro k
  induction k with
  | zero => intro i g b FR h; omega
  | succ k ih =>
    intro i g b FR hk hi I F
    have w1 := W.1
    rw [wY_mergeMore_14]
    refine pk_le p i (fun z => ?_) (fun z => ?_)
    · exact nm_r (nI_1 p) (K g b FR (fu_R_D I (fun _ p' q' f hD _ _ hf _ _ _ d e _ _ => Or.inl ⟨hD.1, by omega⟩) W) F)
    · refine ⟨vp_in_nI (by omega) (by decide), ?_⟩
      have hi2 : i < cnt := by omega
      have bp := (W.2.1 p hp).1
      have bi := (W.2.1 i hi2).1
      have S : (c p = p → c i = i → False) → wY_mergeMore_14 post J4 (nI p) k (fu_b b) (nI (i + 1)) (nI cnt) mk BE CL TY VL FR IG PE KE := fun hs => by
        refine ih (i + 1) g b FR (by omega) (by omega) (fu_R_D I (fun _ p' q' f hD _ _ hf e1 e2 hg d e hd he => ?_) W) F
        by_cases w : p' = p ∧ q' = i
        · obtain ⟨x1, x2⟩ := w
          subst x1 x2
          exact (hs e1 e2).elim
        · exact Or.inl ⟨hD.1, by omega⟩
      rw [nI_clamp (show p < 2 ^ 31 by omega), nI_clamp (show i < 2 ^ 31 by omega), P.1 p hp, P.1 i hi2]
      refine pk_eq (c p) p (fun y => ⟨vp_in_nI (by omega) (by decide), ?_⟩) (fun y => nm_r (nI_1 i) (S (fun h _ => y h)))
      refine pk_eq (c i) i (fun x => ?_) (fun x => nm_r (nI_1 i) (S (fun _ h => x h)))
      unfold wpY_mergeValues
      refine ⟨4, fy_mv5 W P I.1 hp hi2 y x (fun g2 b2 FR2 J F2 => ?_) 4 0 g false FR (by omega) (by omega) (fu_R_D (fu_R0 I.1) (fun _ p' q' f hD _ _ hf _ _ _ d e _ _ => by omega) W) F⟩
      have R2 := fu_R_D (D2 := fun p' q' _ => q' < p' ∧ (p' < p ∨ (p' = p ∧ q' < i + 1))) (fu_R_c W I0 I J) (fun _ p' q' f hD _ _ hf _ _ hg d e hd he => by
        by_cases w : p' = p ∧ q' = i
        · exact Or.inl (Or.inr w)
        · exact Or.inl (Or.inl ⟨hD.1, by omega⟩)) W
      cases b2 with
      | false =>
        rw [Bool.or_false] at R2
        exact br_t rfl (nm_r (nI_1 i) (ih (i + 1) g2 b FR2 (by omega) (by omega) R2 F2))
      | true =>
        rw [Bool.or_true] at R2
        exact br_f (by decide) (nm_r (nI_1 i) (ih (i + 1) g2 true FR2 (by omega) (by omega) R2 F2))
theorem fy_mm4 {post : Int32 → SY → Prop} {g0 : Nat → Nat} (W : fu_WF cnt c t v) (P : fu_PC cnt c t v CL TY VL) (I0 : fu_Y cnt c v n m g0)
    (K : ∀ (g : Nat → Nat) (b : Bool) (FR : Nat → Int32), fu_R cnt c v n m g0 g b (fun p' q' _ => q' < p') → (∀ p, p < cnt → FR p = nI (g p)) → post (fu_b b) ((nI cnt), mk, BE, CL, TY, VL, FR, IG, PE, KE)) :
    ∀ k i (g : Nat → Nat) (b : Bool) (FR : Nat → Int32), cnt - i < k → i ≤ cnt → fu_R cnt c v n m g0 g b (fun p' q' _ => q' < p' ∧ p' < i) → (∀ p, p < cnt → FR p = nI (g p)) → wY_mergeMore_4 post k (fu_b b) (nI i) (nI cnt) mk BE CL TY VL FR IG PE KE := by
  intro k
  induction k with
  | zero => intro i g b FR h; omega
  | succ k ih =>
    intro i g b FR hk hi I F
    have w1 := W.1
    rw [wY_mergeMore_4]
    refine pk_le cnt i (fun z => ?_) (fun z => ?_)
    · exact ⟨fu_nb b, K g b FR (fu_R_D I (fun _ p' q' f hD hp' _ hf _ _ _ d e _ _ => Or.inl ⟨hD, by omega⟩) W) F⟩
    · exact ⟨i + 1, fy_mm14 W P I0 z (fun g2 b2 FR2 J F2 => ih (i + 1) g2 b2 FR2 (by omega) (by omega) J F2) (i + 1) 0 g b FR (by omega) (by omega) (fu_R_D I (fun _ p' q' f hD _ _ hf _ _ _ d e _ _ => Or.inl (by omega)) W) F⟩
theorem fy_mm {post : Int32 → SY → Prop} {g0 : Nat → Nat} (W : fu_WF cnt c t v) (P : fu_PC cnt c t v CL TY VL) (I0 : fu_Y cnt c v n m g0) (F : ∀ p, p < cnt → FR p = nI (g0 p))
    (K : ∀ (g : Nat → Nat) (b : Bool) (FR : Nat → Int32), fu_R cnt c v n m g0 g b (fun p' q' _ => q' < p') → (∀ p, p < cnt → FR p = nI (g p)) → post (fu_b b) ((nI cnt), mk, BE, CL, TY, VL, FR, IG, PE, KE)) : wpY_mergeMore post ((nI cnt), mk, BE, CL, TY, VL, FR, IG, PE, KE) := by
  unfold wpY_mergeMore
  exact ⟨cnt + 1, fy_mm4 W P I0 K (cnt + 1) 0 g0 false FR (by omega) (by omega) (fu_R_D (fu_R0 I0) (fun _ p' q' f hD _ _ hf _ _ _ d e _ _ => by omega) W) F⟩
theorem fy_lo6 {post : Int32 → Prop} {g : Nat → Nat} {x : Nat} (W : fu_WF cnt c t v) (P : fu_PC cnt c t v CL TY VL) (hl : ∀ t, t < 8 → BE t = lo t) (hg : ∀ p, p < cnt → g p ≤ p) (F : ∀ p, p < cnt → FR p = nI (g p)) (hx : x < 16) (K : ∀ s, fu_Lo cnt c t lo g x s → post s) :
    ∀ k i s, cnt - i < k → i ≤ cnt → (∀ j, bt s j = true ↔ j < 8 ∧ ∀ q, q < i → g q = x → bt (lo (t (c q))) j = true) → wY_lowerOf_6 post (nI x) (nI cnt) mk BE CL TY VL FR IG PE KE k s (nI i) := by
  intro k
  induction k with
  | zero => intro i s h; omega
  | succ k ih =>
    intro i s hk hi S
    have w1 := W.1
    rw [wY_lowerOf_6]
    refine pk_le cnt i (fun z => ?_) (fun z => ?_)
    · have e : i = cnt := by omega
      subst e
      exact K s S
    · refine ⟨vp_in_nI (by omega) (by decide), ?_⟩
      have w2 := W.2.1 i z
      have hci : c i < cnt := by omega
      have t8 := W.2.2.1 (c i) hci w2.2
      have bg := hg i z
      rw [nI_clamp (show i < 2 ^ 31 by omega), F i z, P.1 i z, nI_clamp (show c i < 2 ^ 31 by omega), P.2.1 (c i) hci w2.2, nI_clamp (show t (c i) < 2 ^ 31 by omega), hl _ t8]
      refine pk_eq (g i) x (fun y => ⟨vp_in_nI (by omega) (by decide), vp_in_nI (by omega) (by decide), vp_in_nI t8 (by decide), nm_e (nm_r (nI_1 i) (ih (i + 1) _ (by omega) (by omega) (fun j => ?_)))⟩) (fun y => nm_r (nI_1 i) (ih (i + 1) _ (by omega) (by omega) (fun j => ?_)))
      · rw [b_and, Bool.and_eq_true, S j]
        refine ⟨fun h => ⟨h.1.1, fun q hq eq => ?_⟩, fun h => ⟨⟨h.1, fun q hq eq => h.2 q (by omega) eq⟩, h.2 i (by omega) y⟩⟩
        by_cases w : q = i
        · rw [w]; exact h.2
        · exact h.1.2 q (by omega) eq
      · rw [S j]
        refine ⟨fun h => ⟨h.1, fun q hq eq => ?_⟩, fun h => ⟨h.1, fun q hq eq => h.2 q (by omega) eq⟩⟩
        by_cases w : q = i
        · rw [w] at eq; exact absurd eq y
        · exact h.2 q (by omega) eq
theorem fy_lo {post : Int32 → Prop} {g : Nat → Nat} {x : Nat} (W : fu_WF cnt c t v) (P : fu_PC cnt c t v CL TY VL) (hl : ∀ t, t < 8 → BE t = lo t) (hg : ∀ p, p < cnt → g p ≤ p) (F : ∀ p, p < cnt → FR p = nI (g p)) (hx : x < 16) (K : ∀ s, fu_Lo cnt c t lo g x s → post s) : wpY_lowerOf post ((nI cnt), mk, BE, CL, TY, VL, FR, IG, PE, KE) (nI x) := by
  unfold wpY_lowerOf
  refine ⟨cnt + 1, fy_lo6 W P hl hg F hx K (cnt + 1) 0 255 (by omega) (by omega) (fun j => ?_)⟩
  rw [b_255, decide_eq_true_iff]
  exact ⟨fun h => ⟨h, fun q hq => by omega⟩, fun h => h.1⟩
theorem fy_tu63 {post : Int32 → SY → Prop} {g : Nat → Nat} (W : fu_WF cnt c t v) (P : fu_PC cnt c t v CL TY VL) (hl : ∀ t, t < 8 → BE t = lo t) (hg : ∀ p, p < cnt → g p ≤ p) (F : ∀ p, p < cnt → FR p = nI (g p))
    (K1 : (∀ p, p < cnt → ∃ s, fu_Lo cnt c t lo g (g p) s ∧ s ≠ 0) → post 1 ((nI cnt), mk, BE, CL, TY, VL, FR, IG, PE, KE)) (K0 : (∃ p, p < cnt ∧ fu_Lo cnt c t lo g (g p) 0) → post 0 ((nI cnt), mk, BE, CL, TY, VL, FR, IG, PE, KE)) :
    ∀ k i, cnt - i < k → i ≤ cnt → (∀ p, p < i → ∃ s, fu_Lo cnt c t lo g (g p) s ∧ s ≠ 0) → wY_tryUnify_63 post (nI cnt) mk BE CL TY VL FR IG PE KE k (nI i) := by
  intro k
  induction k with
  | zero => intro i h; omega
  | succ k ih =>
    intro i hk hi D
    have w1 := W.1
    rw [wY_tryUnify_63]
    refine pk_le cnt i (fun z => ?_) (fun z => ?_)
    · exact K1 (fun p hp => D p (by omega))
    · refine ⟨vp_in_nI (by omega) (by decide), ?_⟩
      have bg := hg i z
      rw [nI_clamp (show i < 2 ^ 31 by omega), F i z]
      refine fy_lo W P hl hg F (by omega) (fun s S => br_c (fun y => ?_) (fun y => nm_r (nI_1 i) (ih (i + 1) (by omega) (by omega) (fun p hp => ?_))))
      · rw [y] at S
        exact K0 ⟨i, z, S⟩
      · by_cases w : p = i
        · rw [w]; exact ⟨s, S, y⟩
        · exact D p (by omega)
theorem fy_tu38 {post : Int32 → SY → Prop} (W : fu_WF cnt c t v) (P : fu_PC cnt c t v CL TY VL) (hl : ∀ t, t < 8 → BE t = lo t) (hn : n < cnt) (hm : m < cnt)
    (K1 : ∀ (g : Nat → Nat) (FR : Nat → Int32), fu_Lc cnt c v n m g → (∀ p, p < cnt → FR p = nI (g p)) → (∀ p, p < cnt → ∃ s, fu_Lo cnt c t lo g (g p) s ∧ s ≠ 0) → post 1 ((nI cnt), mk, BE, CL, TY, VL, FR, IG, PE, KE))
    (K0 : ∀ (g : Nat → Nat) (FR : Nat → Int32), fu_Lc cnt c v n m g → (∃ p, p < cnt ∧ fu_Lo cnt c t lo g (g p) 0) → post 0 ((nI cnt), mk, BE, CL, TY, VL, FR, IG, PE, KE)) :
    ∀ k r (g : Nat → Nat) (b : Bool) (FR : Nat → Int32), 16 - r < k → r ≤ 16 → fu_Y cnt c v n m g → g n = g m → (∀ p, p < cnt → FR p = nI (g p)) → (b = true → fu_ld g cnt + r + 1 ≤ cnt) →
      (b = false → ∀ p q f d e, q < p → p < cnt → f < 3 → c p = p → c q = q → g p = g q → v p f = some d → v q f = some e → g d = g e) → wY_tryUnify_38 post k (fu_b b) (nI r) (nI cnt) mk BE CL TY VL FR IG PE KE := by
  intro k
  induction k with
  | zero => intro r g b FR h; omega
  | succ k ih =>
    intro r g b FR hk hr I e F B C
    have w1 := W.1
    have E : b = false → ∃ n63, wY_tryUnify_63 post (nI cnt) mk BE CL TY VL FR IG PE KE n63 0 := fun hb =>
      have G := fu_Yf W I e (C hb)
      ⟨cnt + 1, fy_tu63 W P hl (fun p hp => (I.1 p hp).1) F (fun h => K1 g FR G F h) (fun h => K0 g FR G h) (cnt + 1) 0 (by omega) (by omega) (fun p hp => by omega)⟩
    rw [wY_tryUnify_38]
    refine pk_le 16 r (fun z => ?_) (fun z => ?_)
    · refine E ?_
      cases b with
      | false => rfl
      | true =>
        have := B rfl
        omega
    · cases b with
      | false => exact br_t rfl (E rfl)
      | true =>
        have B := B rfl
        refine br_f (by decide) (fy_mm W P I F (fun g2 b2 FR2 J F2 => nm_r (nI_1 r) (ih (r + 1) g2 b2 FR2 (by omega) (by omega) J.1 ?_ F2 (fun hb => ?_) (fun hb p q f d e2 hq hp hf ep eq epq hd he => ?_))))
        · rw [← J.2.1 n hn, ← J.2.1 m hm, e]
        · have := J.2.2.1 hb
          omega
        · have k2 := J.2.2.2 hb
          have wd := W.2.2.2 p f d hp ep hf hd
          have we := W.2.2.2 q f e2 (by omega) eq hf he
          rw [k2.1 d wd.1, k2.1 e2 we.1]
          refine k2.2 p q f d e2 hq hp (by omega) hf ep eq ?_ hd he
          rw [← k2.1 p hp, ← k2.1 q (by omega), epq]
theorem fy_tu2 {post : Int32 → SY → Prop} (W : fu_WF cnt c t v) (P : fu_PC cnt c t v CL TY VL) (hl : ∀ t, t < 8 → BE t = lo t) (hn : n < cnt) (hm : m < cnt)
    (K1 : ∀ (g : Nat → Nat) (FR : Nat → Int32), fu_Lc cnt c v n m g → (∀ p, p < cnt → FR p = nI (g p)) → (∀ p, p < cnt → ∃ s, fu_Lo cnt c t lo g (g p) s ∧ s ≠ 0) → post 1 ((nI cnt), mk, BE, CL, TY, VL, FR, IG, PE, KE))
    (K0 : ∀ (g : Nat → Nat) (FR : Nat → Int32), fu_Lc cnt c v n m g → (∃ p, p < cnt ∧ fu_Lo cnt c t lo g (g p) 0) → post 0 ((nI cnt), mk, BE, CL, TY, VL, FR, IG, PE, KE)) :
    ∀ k i (FR : Nat → Int32), cnt - i < k → i ≤ cnt → (∀ p, p < i → FR p = nI (c p)) → wY_tryUnify_2 post (nI n) (nI m) (nI cnt) mk k (nI i) BE CL TY VL FR IG PE KE := by
  intro k
  induction k with
  | zero => intro i FR h; omega
  | succ k ih =>
    intro i FR hk hi D
    have w1 := W.1
    rw [wY_tryUnify_2]
    refine pk_le cnt i (fun z => ?_) (fun z => ?_)
    · have F : ∀ p, p < cnt → FR p = nI (c p) := fun p hp => D p (by omega)
      refine fy_mg (g := c) w1 (fun p hp => (W.2.1 p hp).1) F hn hm (fun FR2 F2 => ⟨17, ?_⟩)
      have I0 : fu_Y cnt c v n m c := fu_Y0 W
      have U := fu_Y_un I0 hn hm (fun h H => H.2.1)
      refine fy_tu38 W P hl hn hm K1 K0 17 0 (fu_un c n m) (!decide (c n = c m)) FR2 (by omega) (by omega) U.1 fu_un_xy F2 (fun hb => ?_) (fun hb p q f d e hq hp hf ep eq epq hd he => ?_)
      · have y : c n ≠ c m := fun y => by
          rw [decide_eq_true y] at hb
          exact absurd hb (by decide)
        have u2 := U.2 y
        have u3 := fu_cd_le (fun p => decide (c p = p)) cnt
        have u4 : fu_ld c cnt ≤ cnt := u3
        omega
      · have y : c n = c m := by
          refine Classical.byContradiction fun y => ?_
          rw [decide_eq_false y] at hb
          exact absurd hb (by decide)
        rw [fu_un_e y, fu_un_e y] at epq
        omega
    · refine ⟨vp_in_nI (by omega) (by decide), vp_in_nI (by omega) (by decide), ?_⟩
      rw [nI_clamp (show i < 2 ^ 31 by omega)]
      refine nm_e (nm_r (nI_1 i) (ih (i + 1) _ (by omega) (by omega) (fun p hp => ?_)))
      by_cases w : p = i
      · rw [w, pk_us, P.1 i z]
      · rw [pk_un w]
        exact D p (by omega)
theorem fy_tu {post : Int32 → SY → Prop} (W : fu_WF cnt c t v) (P : fu_PC cnt c t v CL TY VL) (hl : ∀ t, t < 8 → BE t = lo t) (hn : n < cnt) (hm : m < cnt)
    (K1 : ∀ (g : Nat → Nat) (FR : Nat → Int32), fu_Lc cnt c v n m g → (∀ p, p < cnt → FR p = nI (g p)) → (∀ p, p < cnt → ∃ s, fu_Lo cnt c t lo g (g p) s ∧ s ≠ 0) → post 1 ((nI cnt), mk, BE, CL, TY, VL, FR, IG, PE, KE))
    (K0 : ∀ (g : Nat → Nat) (FR : Nat → Int32), fu_Lc cnt c v n m g → (∃ p, p < cnt ∧ fu_Lo cnt c t lo g (g p) 0) → post 0 ((nI cnt), mk, BE, CL, TY, VL, FR, IG, PE, KE)) : wpY_tryUnify post ((nI cnt), mk, BE, CL, TY, VL, FR, IG, PE, KE) (nI n) (nI m) := by
  unfold wpY_tryUnify
  exact ⟨cnt + 1, fy_tu2 W P hl hn hm K1 K0 (cnt + 1) 0 FR (by omega) (by omega) (fun p hp => by omega)⟩
end
end
section
/-! Y: valueOf, takeValues, unify -/
section
variable {cn mk : Int32} {BE CL TY VL FR IG PE KE : Nat → Int32}
variable {cnt : Nat} {c t : Nat → Nat} {v : Nat → Nat → Option Nat} {lo : Nat → Int32} {n m : Nat}
theorem fy_vo2 {post : Int32 → Prop} {g : Nat → Nat} {x f : Nat} (W : fu_WF cnt c t v) (P : fu_PC cnt c t v CL TY VL) (hg : ∀ p, p < cnt → g p ≤ p) (F : ∀ p, p < cnt → FR p = nI (g p)) (hx : x < 16) (hf : f < 3) (K : ∀ o, fu_Vs cnt c v g x f o → post (fu_v o)) :
    ∀ k i, cnt - i < k → i ≤ cnt → (∀ p, p < i → g p = x → v (c p) f = none) → wY_valueOf_2 post (nI x) (nI f) (nI cnt) mk BE CL TY VL FR IG PE KE k (nI i) := by
  intro k
  induction k with
  | zero => intro i h; omega
  | succ k ih =>
    intro i hk hi D
    have w1 := W.1
    rw [wY_valueOf_2]
    refine pk_le cnt i (fun z => ?_) (fun z => ?_)
    · exact K none (Or.inl ⟨rfl, fun p hp => D p (by omega)⟩)
    · have w2 := W.2.1 i z
      have hci : c i < cnt := by omega
      have bg := hg i z
      refine ⟨vp_in_nI (by omega) (by decide), ?_⟩
      rw [nI_clamp (show i < 2 ^ 31 by omega), P.1 i z, F i z, fu_a2 (c i) f]
      refine ⟨vp_in_nI (by omega) (by decide), ?_⟩
      rw [nI_clamp (show 3 * c i + f < 2 ^ 31 by omega), P.2.2 (c i) f hci w2.2 hf]
      have S : (g i = x → v (c i) f = none) → wY_valueOf_2 post (nI x) (nI f) (nI cnt) mk BE CL TY VL FR IG PE KE k (nI (i + 1)) := fun hs =>
        ih (i + 1) (by omega) (by omega) (fun p hp => by
          by_cases w : p = i
          · rw [w]; exact hs
          · exact D p (by omega))
      refine nm_e ⟨vp_in_nI (by omega) (by decide), ?_⟩
      refine pk_eq (g i) x (fun y => ?_) (fun y => nm_r (nI_1 i) (S (fun h => absurd h y)))
      cases u : v (c i) f with
      | none => exact br_t rfl (nm_r (nI_1 i) (S (fun _ => u)))
      | some e =>
        have ke := W.2.2.2 (c i) f e hci w2.2 hf u
        refine br_f (fu_ne (by omega)) ⟨vp_in_nI (n := e) (by omega) (by decide), ?_⟩
        show post (FR (nI e).toNatClampNeg)
        rw [nI_clamp (show e < 2 ^ 31 by omega), F e ke.1]
        exact K (some (g e)) (Or.inr ⟨i, e, z, y, u, rfl⟩)
theorem fy_vo {post : Int32 → Prop} {g : Nat → Nat} {x f : Nat} (W : fu_WF cnt c t v) (P : fu_PC cnt c t v CL TY VL) (hg : ∀ p, p < cnt → g p ≤ p) (F : ∀ p, p < cnt → FR p = nI (g p)) (hx : x < 16) (hf : f < 3) (K : ∀ o, fu_Vs cnt c v g x f o → post (fu_v o)) : wpY_valueOf post ((nI cnt), mk, BE, CL, TY, VL, FR, IG, PE, KE) (nI x) (nI f) := by
  unfold wpY_valueOf
  exact ⟨cnt + 1, fy_vo2 W P hg F hx hf K (cnt + 1) 0 (by omega) (by omega) (fun p hp => by omega)⟩
theorem fy_tv36 {post : SY → Prop} (hc : cnt ≤ 16) : ∀ k i (VL : Nat → Int32), 3 * cnt - i < k → i ≤ 3 * cnt → post ((nI cnt), mk, BE, CL, TY, (fu_mp (fun j _ => PE j) i (3 * cnt) VL), FR, IG, PE, KE) → wY_takeValues_36 post (nI cnt) mk k (nI i) BE CL TY VL FR IG PE KE := by
  intro k
  induction k with
  | zero => intro i VL h; omega
  | succ k ih =>
    intro i VL hk hi K
    rw [wY_takeValues_36]
    rw [fu_3x cnt]
    refine pk_le (3 * cnt) i (fun z => ?_) (fun z => ?_)
    · rw [fu_mp_e z] at K
      exact K
    · refine ⟨vp_in_nI (by omega) (by decide), vp_in_nI (by omega) (by decide), ?_⟩
      rw [nI_clamp (show i < 2 ^ 31 by omega)]
      rw [← fu_mp_s (A := VL) z] at K
      exact nm_e (nm_r (nI_1 i) (ih (i + 1) _ (by omega) (by omega) K))
theorem fy_tv2 {post : SY → Prop} {g : Nat → Nat} {v1 : Nat → Nat → Option Nat} (W : fu_WF cnt c t v) (P : fu_PC cnt c t v CL TY VL) (hg : ∀ p, p < cnt → g p ≤ p) (F : ∀ p, p < cnt → FR p = nI (g p))
    (hv : ∀ p f o, p < cnt → g p = p → f < 3 → fu_Vs cnt c v g p f o → o = v1 p f)
    (K : ∀ VL PE : Nat → Int32, (∀ p f, p < cnt → g p = p → f < 3 → VL (3 * p + f) = fu_v (v1 p f)) → post ((nI cnt), mk, BE, CL, TY, VL, FR, IG, PE, KE)) :
    ∀ k i (PE : Nat → Int32), 3 * cnt - i < k → i ≤ 3 * cnt → (∀ p f, p < cnt → g p = p → f < 3 → 3 * p + f < i → PE (3 * p + f) = fu_v (v1 p f)) → wY_takeValues_2 post (nI cnt) mk k (nI i) BE CL TY VL FR IG PE KE := by
  intro k
  induction k with
  | zero => intro i PE h; omega
  | succ k ih =>
    intro i PE hk hi D
    have w1 := W.1
    rw [wY_takeValues_2]
    rw [fu_3x cnt]
    refine pk_le (3 * cnt) i (fun z => ?_) (fun z => ?_)
    · refine ⟨3 * cnt + 1, fy_tv36 w1 (3 * cnt + 1) 0 VL (by omega) (by omega) (K _ _ (fun p f hp ep hf => ?_))⟩
      rw [fu_mp_in (by omega) (by omega)]
      exact D p f hp ep hf (by omega)
    · refine ⟨fu_n3, fu_n3, ?_⟩
      rw [fu_r3 (show i < 2 ^ 31 by omega), fu_d3 (show i < 2 ^ 31 by omega)]
      refine fy_vo W P hg F (by omega) (by omega) (fun o S => ⟨vp_in_nI (by omega) (by decide), ?_⟩)
      rw [nI_clamp (show i < 2 ^ 31 by omega)]
      refine nm_e (nm_r (nI_1 i) (ih (i + 1) _ (by omega) (by omega) (fun p f hp ep hf hpf => ?_)))
      by_cases w : 3 * p + f = i
      · have e1 : i / 3 = p := by omega
        have e2 : i % 3 = f := by omega
        rw [e1, e2] at S
        rw [w, pk_us, hv p f o hp ep hf S]
      · rw [pk_un w]
        exact D p f hp ep hf (by omega)
theorem fy_un85 {post : Int32 → SY → Prop} {g t1 : Nat → Nat} (hc : cnt ≤ 16) (hg : ∀ p, p < cnt → g p ≤ p) (F : ∀ p, p < cnt → FR p = nI (g p)) (T : ∀ p, p < cnt → g p = p → IG p = nI (t1 p))
    (K : ∀ CL TY : Nat → Int32, (∀ p, p < cnt → CL p = nI (g p)) → (∀ p, p < cnt → g p = p → TY p = nI (t1 p)) → post (nI (fu_ld g cnt)) ((nI cnt), mk, BE, CL, TY, VL, FR, IG, PE, KE)) :
    ∀ k i (CL TY : Nat → Int32), cnt - i < k → i ≤ cnt → (∀ p, p < i → CL p = nI (g p)) → (∀ p, p < i → g p = p → TY p = nI (t1 p)) → wY_unify_85 post (nI cnt) mk k (nI i) BE CL TY VL FR IG PE KE := by
  intro k
  induction k with
  | zero => intro i CL TY h; omega
  | succ k ih =>
    intro i CL TY hk hi D1 D2
    rw [wY_unify_85]
    refine pk_le cnt i (fun z => ?_) (fun z => ?_)
    · exact fy_cl hc hg (fun p hp => D1 p (by omega)) (K CL TY (fun p hp => D1 p (by omega)) (fun p hp => D2 p (by omega)))
    · refine ⟨vp_in_nI (by omega) (by decide), vp_in_nI (by omega) (by decide), ?_⟩
      rw [nI_clamp (show i < 2 ^ 31 by omega)]
      refine nm_e ⟨vp_in_nI (by omega) (by decide), vp_in_nI (by omega) (by decide), nm_e (nm_r (nI_1 i) (ih (i + 1) _ _ (by omega) (by omega) (fun p hp => ?_) (fun p hp ep => ?_)))⟩
      · by_cases w : p = i
        · rw [w, pk_us, F i z]
        · rw [pk_un w]
          exact D1 p (by omega)
      · by_cases w : p = i
        · subst w
          rw [pk_us]
          exact T p z ep
        · rw [pk_un w]
          exact D2 p (by omega) ep
theorem fy_un32 {post : Int32 → SY → Prop} {g t1 : Nat → Nat} {v1 : Nat → Nat → Option Nat} (W : fu_WF cnt c t v) (P : fu_PC cnt c t v CL TY VL) (hl : ∀ t, t < 8 → BE t = lo t) (hg : ∀ p, p < cnt → g p ≤ p) (F : ∀ p, p < cnt → FR p = nI (g p))
    (ht : ∀ p s, p < cnt → g p = p → fu_Lo cnt c t lo g p s → fu_gr lo s = nI (t1 p))
    (hv : ∀ p f o, p < cnt → g p = p → f < 3 → fu_Vs cnt c v g p f o → o = v1 p f)
    (K : ∀ CL TY VL IG PE : Nat → Int32, fu_PC cnt g t1 v1 CL TY VL → post (nI (fu_ld g cnt)) ((nI cnt), mk, BE, CL, TY, VL, FR, IG, PE, KE)) :
    ∀ k i (IG : Nat → Int32), cnt - i < k → i ≤ cnt → (∀ p, p < i → g p = p → IG p = nI (t1 p)) → wY_unify_32 post (nI cnt) mk k (nI i) BE CL TY VL FR IG PE KE := by
  intro k
  induction k with
  | zero => intro i IG h; omega
  | succ k ih =>
    intro i IG hk hi D
    have w1 := W.1
    rw [wY_unify_32]
    refine pk_le cnt i (fun z => ?_) (fun z => ?_)
    · unfold wpY_takeValues
      refine ⟨3 * cnt + 1, fy_tv2 W P hg F hv (fun VL2 PE2 V => ⟨cnt + 1, ?_⟩) (3 * cnt + 1) 0 PE (by omega) (by omega) (fun p f _ _ _ h => by omega)⟩
      exact fy_un85 w1 hg F (fun p hp => D p (by omega)) (fun CL2 TY2 C1 C2 => K CL2 TY2 VL2 IG PE2 ⟨C1, C2, V⟩) (cnt + 1) 0 CL TY (by omega) (by omega) (fun p hp => by omega) (fun p hp => by omega)
    · refine fy_lo W P hl hg F (by omega) (fun s S => ⟨vp_in_nI (by omega) (by decide), ?_⟩)
      have bg := hg i z
      rw [nI_clamp (show i < 2 ^ 31 by omega), F i z]
      refine pk_eq (g i) i (fun y => fy_gr hl ⟨vp_in_nI (by omega) (by decide), nm_e (nm_r (nI_1 i) (ih (i + 1) _ (by omega) (by omega) (fun p hp ep => ?_)))⟩) (fun y => ⟨vp_in_nI (by omega) (by decide), nm_e (nm_r (nI_1 i) (ih (i + 1) _ (by omega) (by omega) (fun p hp ep => ?_)))⟩)
      · by_cases w : p = i
        · rw [w, pk_us]
          exact ht i s z y S
        · rw [pk_un w]
          exact D p (by omega) ep
      · by_cases w : p = i
        · rw [w] at ep
          exact absurd ep y
        · rw [pk_un w]
          exact D p (by omega) ep
end
end
section
/-! Y: reach, subsumes -/
section
variable {cn mk : Int32} {BE CL TY VL FR IG PE KE : Nat → Int32}
variable {cnt : Nat} {c t : Nat → Nat} {v : Nat → Nat → Option Nat} {lo : Nat → Int32} {s0 : Nat}
/-- what has been looked at, by places -/
def fu_Dp (v : Nat → Nat → Option Nat) (s w : Int32) (i : Nat) : Prop := ∀ q f d, 3 * q + f < i → bt s q = true → f < 3 → v q f = some d → bt w d = true
theorem fy_re30 {post : Int32 → Prop} {J21 : Int32 → Int32 → Prop} {s : Int32} {r : Nat} (W : fu_WF cnt c t v) (P : fu_PC cnt c t v CL TY VL) (I : fu_Rs cnt c v s0 s)
    (K : ∀ w, fu_Rs cnt c v s0 w → (∀ i, bt s i = true → bt w i = true) → (∀ p f d, bt s p = true → f < 3 → v p f = some d → bt w d = true) → J21 w (nI (r + 1))) :
    ∀ n i w, 3 * cnt - i < n → i ≤ 3 * cnt → fu_Rs cnt c v s0 w → (∀ i, bt s i = true → bt w i = true) → fu_Dp v s w i → wY_reach_30 post J21 (nI r) (nI cnt) mk BE CL TY VL FR IG PE KE n w (nI i) := by
  intro n
  induction n with
  | zero => intro i w h; omega
  | succ n ih =>
    intro i w h hi J G D
    have w1 := W.1
    rw [wY_reach_30]
    rw [fu_3x cnt]
    refine pk_le (3 * cnt) i (fun z => ?_) (fun z => ?_)
    · refine nm_r (nI_1 r) (K w J G (fun p f d hs hf hv => D p f d ?_ hs hf hv))
      have := (I.2 p hs).1
      omega
    · refine ⟨fu_n3, ?_⟩
      rw [fu_d3 (show i < 2 ^ 31 by omega)]
      have ei : 3 * (i / 3) + i % 3 = i := by omega
      have S : (∀ d, bt s (i / 3) = true → v (i / 3) (i % 3) = some d → bt w d = true) → wY_reach_30 post J21 (nI r) (nI cnt) mk BE CL TY VL FR IG PE KE n w (nI (i + 1)) := fun hs => by
        refine ih (i + 1) w (by omega) (by omega) J G (fun q f d hq hb hf hv => ?_)
        by_cases u : 3 * q + f = i
        · have e1 : i / 3 = q := by omega
          have e2 : i % 3 = f := by omega
          rw [e1, e2] at hs
          exact hs d hb hv
        · exact D q f d (by omega) hb hf hv
      refine fy_ha (by omega) ?_
      cases y : bt w (i / 3) with
      | false =>
        refine br_t rfl (nm_r (nI_1 i) (S (fun d hb _ => ?_)))
        rw [G _ hb] at y
        exact absurd y (by decide)
      | true =>
        refine br_f (by decide) ⟨vp_in_nI (by omega) (by decide), ?_⟩
        have k := J.2 _ y
        have ev : VL i = fu_v (v (i / 3) (i % 3)) := by
          have := P.2.2 (i / 3) (i % 3) k.1 k.2.1 (by omega)
          rw [ei] at this
          exact this
        rw [nI_clamp (show i < 2 ^ 31 by omega), ev]
        cases x : v (i / 3) (i % 3) with
        | none => exact br_t rfl (nm_r (nI_1 i) (S (fun d _ hv => by rw [x] at hv; exact nomatch hv)))
        | some d =>
          have kd := W.2.2.2 (i / 3) (i % 3) d k.1 k.2.1 (by omega) x
          have A := fu_Rsa W J J y (by omega) x
          refine br_f (fu_ne (by omega)) ⟨vp_in_nI (by omega) (by decide), nm_e (nm_r (nI_1 i) (ih (i + 1) _ (by omega) (by omega) A.1 (fun j hj => A.2.2.1 j (G j hj)) (fun q f d2 hq hb hf hv => ?_)))⟩
          by_cases u : 3 * q + f = i
          · have e1 : i / 3 = q := by omega
            have e2 : i % 3 = f := by omega
            rw [e1, e2, hv] at x
            cases x
            exact A.2.2.2
          · exact A.2.2.1 d2 (D q f d2 (by omega) hb hf hv)
theorem fy_re21 {post : Int32 → Prop} (W : fu_WF cnt c t v) (P : fu_PC cnt c t v CL TY VL) (K : ∀ s, fu_Rs cnt c v s0 s → fu_Rd v s → post (nI (fu_cd (bt s) 16))) :
    ∀ n i s, 16 - i < n → i ≤ 16 → fu_Rs cnt c v s0 s → fu_Rk v cnt s i → wY_reach_21 post (nI cnt) mk BE CL TY VL FR IG PE KE n s (nI i) := by
  intro n
  induction n with
  | zero => intro i s h; omega
  | succ n ih =>
    intro i s h hi I Q
    have w1 := W.1
    rw [wY_reach_21]
    refine pk_le 16 i (fun z => ?_) (fun z => ?_)
    · exact fy_sz (K s I (fu_Rke Q (by omega)))
    · exact ⟨3 * cnt + 1, fy_re30 W P I (fun w J G A => ih (i + 1) w (by omega) (by omega) J (fu_Rks I J G A Q)) (3 * cnt + 1) 0 s (by omega) (by omega) I (fun _ h => h) (fun q f d hq => by omega)⟩
theorem fy_re {post : Int32 → Prop} {x : Nat} (W : fu_WF cnt c t v) (P : fu_PC cnt c t v CL TY VL) (hx : x < cnt) (K : ∀ s, fu_Rs cnt c v (c x) s → fu_Rd v s → post (nI (fu_cd (bt s) 16))) : wpY_reach post ((nI cnt), mk, BE, CL, TY, VL, FR, IG, PE, KE) (nI x) := by
  unfold wpY_reach
  have w1 := W.1
  have w2 := W.2.1 x hx
  refine fy_no_y hx w1 (br_f (by decide) ⟨vp_in_nI (by omega) (by decide), ?_⟩)
  rw [nI_clamp (show x < 2 ^ 31 by omega), P.1 x hx]
  have I := fu_Rs0 W (x := c x) (by omega) w2.2
  exact nm_e ⟨17, fy_re21 W P K 17 0 _ (by omega) (by omega) I (fu_Rk0 I)⟩
theorem fy_co35 {post : Int32 → SY → Prop} {p h : Nat} (W : fu_WF cnt c t v) (Q : fu_PC cnt c t v CL TY VL) (hp : p < cnt) (ep : c p = p) (hh : h < cnt) (eh : c h = h) :
    ∀ n k i (im : Nat → Option Nat) (IG : Nat → Int32), k < n → i + k = 3 → fu_Im cnt c im → fu_Pi cnt im IG → (fu_s3 v p h k i im = none → ∀ IG : Nat → Int32, post 0 (cn, mk, BE, CL, TY, VL, FR, IG, PE, KE)) →
      (∀ im', fu_s3 v p h k i im = some im' → ∀ IG : Nat → Int32, fu_Pi cnt im' IG → post 1 (cn, mk, BE, CL, TY, VL, FR, IG, PE, KE)) → wY_carryOn_35 post (nI p) (nI h) cn mk n (nI i) BE CL TY VL FR IG PE KE := by
  intro n
  induction n with
  | zero => intro k i im IG h; omega
  | succ n ih =>
    intro k i im IG hk hi I P K0 K1
    have w1 := W.1
    rw [wY_carryOn_35]
    refine pk_le 3 i (fun z => ?_) (fun z => ?_)
    · have e : k = 0 := by omega
      subst e
      exact K1 im rfl IG P
    · obtain ⟨k, rfl⟩ : ∃ e, k = e + 1 := ⟨k - 1, by omega⟩
      rw [fu_a2 p i, fu_a2 h i]
      refine ⟨vp_in_nI (by omega) (by decide), ?_⟩
      rw [nI_clamp (show 3 * p + i < 2 ^ 31 by omega), nI_clamp (show 3 * h + i < 2 ^ 31 by omega), Q.2.2 p i hp ep z, Q.2.2 h i hh eh z]
      refine nm_e ⟨vp_in_nI (by omega) (by decide), nm_e ?_⟩
      have go : ∀ im' (IG : Nat → Int32), fu_s1 v p h i im = some im' → fu_Pi cnt im' IG → wY_carryOn_35 post (nI p) (nI h) cn mk n (nI (i + 1)) BE CL TY VL FR IG PE KE := by
        intro im' IG e P'
        rw [fu_s3_s e] at K0 K1
        exact ih k (i + 1) im' IG (by omega) (by omega) (fu_s1_ok W I hp ep hh eh z e).1 P' K0 K1
      cases x : v p i with
      | none => exact br_t rfl (nm_r (nI_1 i) (go im IG (fu_s1_n x) P))
      | some d =>
        have kd := W.2.2.2 p i d hp ep z x
        refine br_f (fu_ne (by omega)) ?_
        cases y : v h i with
        | none =>
          rw [fu_s3_n (fu_s1_h x y)] at K0
          exact br_t rfl (K0 rfl IG)
        | some e =>
          have ke := W.2.2.2 h i e hh eh z y
          refine br_f (fu_ne (by omega)) ⟨vp_in_nI (n := d) (by omega) (by decide), ?_⟩
          have cd : (fu_v (some d)).toNatClampNeg = d := nI_clamp (show d < 2 ^ 31 by omega)
          rw [cd, P d kd.1]
          cases u : im d with
          | none =>
            refine br_t rfl ⟨vp_in_nI (n := d) (by omega) (by decide), nm_e (nm_r (nI_1 i) (go _ _ (fu_s1_y x y (Or.inl u)) (fu_Pi_u P)))⟩
          | some q =>
            have hq := fu_Pi_b w1 I d q u
            refine br_f (fu_ne hq) ⟨vp_in_nI (n := d) (by omega) (by decide), ?_⟩
            refine pk_eq q e (fun w => ⟨vp_in_nI (n := d) (by omega) (by decide), nm_e (nm_r (nI_1 i) (go _ _ (fu_s1_y x y (Or.inr (by rw [u, w]))) (fu_Pi_u P)))⟩) (fun w => ?_)
            rw [fu_s3_n (fu_s1_x x y (fun w2 => by
              rcases w2 with w2 | w2
              · rw [u] at w2; exact nomatch w2
              · rw [u] at w2; exact w (Option.some.inj w2)))] at K0
            exact K0 rfl IG
theorem fy_co {post : Int32 → SY → Prop} {p h : Nat} {im : Nat → Option Nat} (W : fu_WF cnt c t v) (Q : fu_PC cnt c t v CL TY VL) (hl : ∀ t, t < 8 → BE t = lo t) (I : fu_Im cnt c im) (P : fu_Pi cnt im IG) (e : im p = some h)
    (K0 : fu_sp lo t v p im = none → ∀ IG : Nat → Int32, post 0 (cn, mk, BE, CL, TY, VL, FR, IG, PE, KE)) (K1 : ∀ im', fu_sp lo t v p im = some im' → ∀ IG : Nat → Int32, fu_Pi cnt im' IG → post 1 (cn, mk, BE, CL, TY, VL, FR, IG, PE, KE)) : wpY_carryOn post (cn, mk, BE, CL, TY, VL, FR, IG, PE, KE) (nI p) := by
  obtain ⟨hp, ep, hh, eh⟩ := I p h e
  have w1 := W.1
  have t1 := W.2.2.1 p hp ep
  have t2 := W.2.2.1 h hh eh
  unfold wpY_carryOn
  refine ⟨vp_in_nI (by omega) (by decide), ?_⟩
  rw [nI_clamp (show p < 2 ^ 31 by omega), P p hp, e, Q.2.1 p hp ep, nI_clamp (show t p < 2 ^ 31 by omega), hl (t p) t1]
  refine nm_e ⟨vp_in_nI (by omega) (by decide), vp_in_nI t1 (by decide), vp_in_nI (n := h) (by omega) (by decide), ?_⟩
  have ch : (fu_v (some h)).toNatClampNeg = h := nI_clamp (show h < 2 ^ 31 by omega)
  rw [ch, Q.2.1 h hh eh]
  refine fy_ha (by omega) ?_
  cases y : bt (lo (t p)) (t h) with
  | false =>
    rw [fu_sp_x e y] at K0
    exact br_t rfl (K0 rfl IG)
  | true =>
    rw [fu_sp_y e y] at K0 K1
    exact br_f (by decide) ⟨4, fy_co35 W Q hp ep hh eh 4 3 0 im IG (by omega) (by omega) I P K0 K1⟩
theorem fy_su70 {post : Int32 → SY → Prop} {J61 : Int32 → Int32 → Int32 → (Nat → Int32) → (Nat → Int32) → (Nat → Int32) → (Nat → Int32) → (Nat → Int32) → (Nat → Int32) → (Nat → Int32) → (Nat → Int32) → Prop} {r : Nat} (W : fu_WF cnt c t v) (Q : fu_PC cnt c t v CL TY VL) (hl : ∀ t, t < 8 → BE t = lo t) :
    ∀ n k p (im : Nat → Option Nat) (IG : Nat → Int32), k < n → p + k = cnt → fu_Im cnt c im → fu_Pi cnt im IG → (fu_sr lo t v k p im = none → ∀ IG : Nat → Int32, post 0 ((nI cnt), mk, BE, CL, TY, VL, FR, IG, PE, KE)) →
      (∀ im', fu_sr lo t v k p im = some im' → ∀ IG : Nat → Int32, fu_Pi cnt im' IG → J61 (nI (r + 1)) (nI cnt) mk BE CL TY VL FR IG PE KE) → wY_subsumes_70 post J61 (nI r) n (nI p) (nI cnt) mk BE CL TY VL FR IG PE KE := by
  intro n
  induction n with
  | zero => intro k p im IG h; omega
  | succ n ih =>
    intro k p im IG hk hp I P K0 K1
    have w1 := W.1
    rw [wY_subsumes_70]
    refine pk_le cnt p (fun z => ?_) (fun z => ?_)
    · have e : k = 0 := by omega
      subst e
      exact nm_r (nI_1 r) (K1 im rfl IG P)
    · obtain ⟨k, rfl⟩ : ∃ e, k = e + 1 := ⟨k - 1, by omega⟩
      refine ⟨vp_in_nI (by omega) (by decide), ?_⟩
      rw [nI_clamp (show p < 2 ^ 31 by omega), P p z]
      cases x : im p with
      | none =>
        rw [fu_sr_s (fu_sp_0 x)] at K0 K1
        exact br_t rfl (nm_r (nI_1 p) (ih k (p + 1) im IG (by omega) (by omega) I P K0 K1))
      | some h =>
        have hh := fu_Pi_b w1 I p h x
        refine br_f (fu_ne hh) (fy_co W Q hl I P x (fun e IG2 => ?_) (fun im' e IG2 P2 => ?_))
        · rw [fu_sr_n e] at K0
          exact br_t rfl (K0 rfl IG2)
        · rw [fu_sr_s e] at K0 K1
          exact br_f (by decide) (nm_r (nI_1 p) (ih k (p + 1) im' IG2 (by omega) (by omega) (fu_sp_ok W I e).1 P2 K0 K1))
theorem fy_su61 {post : Int32 → SY → Prop} (W : fu_WF cnt c t v) (Q : fu_PC cnt c t v CL TY VL) (hl : ∀ t, t < 8 → BE t = lo t) :
    ∀ n k i (im : Nat → Option Nat) (IG : Nat → Int32), k < n → i + k = 16 → fu_Im cnt c im → fu_Pi cnt im IG → (∀ IG : Nat → Int32, post (fu_b (fu_it (fu_sr lo t v cnt 0) k im).isSome) ((nI cnt), mk, BE, CL, TY, VL, FR, IG, PE, KE)) → wY_subsumes_61 post n (nI i) (nI cnt) mk BE CL TY VL FR IG PE KE := by
  intro n
  induction n with
  | zero => intro k i im IG h; omega
  | succ n ih =>
    intro k i im IG hk hi I P K
    have w1 := W.1
    rw [wY_subsumes_61]
    refine pk_le 16 i (fun z => ?_) (fun z => ?_)
    · have e : k = 0 := by omega
      subst e
      exact K IG
    · obtain ⟨k, rfl⟩ : ∃ e, k = e + 1 := ⟨k - 1, by omega⟩
      refine ⟨cnt + 1, fy_su70 W Q hl (cnt + 1) cnt 0 im IG (by omega) (by omega) I P (fun e IG2 => ?_) (fun im' e IG2 P2 => ?_)⟩
      · rw [fu_it_n e] at K
        exact K IG2
      · rw [fu_it_s e] at K
        exact ih k (i + 1) im' IG2 (by omega) (by omega) (fu_sr_ok W cnt 0 im im' I e).1 P2 K
theorem fy_su20 {post : Int32 → SY → Prop} {x y : Nat} (W : fu_WF cnt c t v) (Q : fu_PC cnt c t v CL TY VL) (hl : ∀ t, t < 8 → BE t = lo t) (hx : x < cnt) (hy : y < cnt)
    (K : ∀ IG : Nat → Int32, post (fu_b (fu_it (fu_sr lo t v cnt 0) 16 (fu_i0 (c x) (c y))).isSome) ((nI cnt), mk, BE, CL, TY, VL, FR, IG, PE, KE)) :
    ∀ n i (IG : Nat → Int32), cnt - i < n → i ≤ cnt → (∀ p, p < i → IG p = -4) → wY_subsumes_20 post (nI x) (nI y) (nI cnt) mk n (nI i) BE CL TY VL FR IG PE KE := by
  intro n
  induction n with
  | zero => intro i IG h; omega
  | succ n ih =>
    intro i IG h hi D
    have w1 := W.1
    have wx := W.2.1 x hx
    have wy := W.2.1 y hy
    rw [wY_subsumes_20]
    refine pk_le cnt i (fun z => ?_) (fun z => ?_)
    · refine ⟨vp_in_nI (by omega) (by decide), vp_in_nI (by omega) (by decide), ?_⟩
      rw [nI_clamp (show x < 2 ^ 31 by omega), nI_clamp (show y < 2 ^ 31 by omega), Q.1 x hx, Q.1 y hy]
      refine ⟨vp_in_nI (by omega) (by decide), ?_⟩
      rw [nI_clamp (show c x < 2 ^ 31 by omega)]
      refine nm_e ⟨17, fy_su61 W Q hl 17 16 0 (fu_i0 (c x) (c y)) _ (by omega) (by omega) (fu_i0_ok (by omega) wx.2 (by omega) wy.2) (fun p hp => ?_) K⟩
      unfold fu_i0
      by_cases w : p = c x
      · rw [w, pk_us, if_pos rfl]
        rfl
      · rw [pk_un w, if_neg w, D p (by omega)]
        rfl
    · refine ⟨vp_in_nI (by omega) (by decide), ?_⟩
      rw [nI_clamp (show i < 2 ^ 31 by omega)]
      refine nm_e (nm_r (nI_1 i) (ih (i + 1) _ (by omega) (by omega) (fun p hp => ?_)))
      by_cases w : p = i
      · rw [w, pk_us]
      · rw [pk_un w]
        exact D p (by omega)
theorem fy_su {post : Int32 → SY → Prop} {x y : Nat} (W : fu_WF cnt c t v) (Q : fu_PC cnt c t v CL TY VL) (hl : ∀ t, t < 8 → BE t = lo t) (hx : x < cnt) (hy : y < cnt)
    (K : ∀ IG : Nat → Int32, post (fu_b (fu_it (fu_sr lo t v cnt 0) 16 (fu_i0 (c x) (c y))).isSome) ((nI cnt), mk, BE, CL, TY, VL, FR, IG, PE, KE)) : wpY_subsumes post ((nI cnt), mk, BE, CL, TY, VL, FR, IG, PE, KE) (nI x) (nI y) := by
  unfold wpY_subsumes
  exact fy_no_y hx W.1 (br_f (by decide) (fy_no_y hy W.1 (br_f (by decide) ⟨cnt + 1, fy_su20 W Q hl hx hy K (cnt + 1) 0 IG (by omega) (by omega) (fun p hp => by omega)⟩)))
end
end
section
/-! Y: mark, back; how both begin -/
theorem fu_c16 (a f : Nat) : nI a + 16 + nI f = nI (a + 16 + f) := by rw [← fu_16, nI_add, nI_add]
theorem fu_c32 (a f : Nat) : nI a + 32 + nI f = nI (a + 32 + f) := by rw [← fu_32, nI_add, nI_add]
theorem fu_c80 (a : Nat) : nI a + 80 = nI (a + 80) := by rw [← fu_80, nI_add]
section
variable {cn mk : Int32} {BE CL TY VL FR IG PE KE : Nat → Int32}
theorem fy_mk80 {post : Int32 → SY → Prop} {s : Nat} (hs : s < 6) (KO : Nat → Int32)
    (K : ∀ KE : Nat → Int32, (∀ j, j < 16 → KE (81 * s + j) = CL j) → (∀ j, j < 16 → KE (81 * s + 16 + j) = TY j) → (∀ j, j < 48 → KE (81 * s + 32 + j) = VL j) → (∀ j, j < 81 * s ∨ 81 * s + 80 ≤ j → KE j = KO j) → post (nI (s + 1)) (cn, (nI (s + 1)), BE, CL, TY, VL, FR, IG, PE, KE)) :
    ∀ n i (KE : Nat → Int32), 48 - i < n → i ≤ 48 → (∀ j, j < 16 → KE (81 * s + j) = CL j) → (∀ j, j < 16 → KE (81 * s + 16 + j) = TY j) → (∀ j, j < i → KE (81 * s + 32 + j) = VL j) → (∀ j, j < 81 * s ∨ 81 * s + 80 ≤ j → KE j = KO j) → wY_mark_80 post (nI (81 * s)) cn (nI s) n (nI i) BE CL TY VL FR IG PE KE := by
  intro n
  induction n with
  | zero => intro i KE h; omega
  | succ n ih =>
    intro i KE h hi D1 D2 D3 D4
    rw [wY_mark_80]
    refine pk_le 48 i (fun z => ?_) (fun z => ?_)
    · exact nm_r (nI_1 s) (K KE D1 D2 (fun j hj => D3 j (by omega)) D4)
    · rw [fu_c32 (81 * s) i]
      refine ⟨vp_in_nI z (by decide), vp_in_nI (by omega) (by decide), ?_⟩
      rw [nI_clamp (show 81 * s + 32 + i < 2 ^ 31 by omega), nI_clamp (show i < 2 ^ 31 by omega)]
      refine nm_e (nm_r (nI_1 i) (ih (i + 1) _ (by omega) (by omega) (fun j hj => ?_) (fun j hj => ?_) (fun j hj => ?_) (fun j hj => ?_)))
      · rw [pk_un (by omega)]
        exact D1 j hj
      · rw [pk_un (by omega)]
        exact D2 j hj
      · by_cases w : j = i
        · rw [w, pk_us]
        · rw [pk_un (by omega)]
          exact D3 j (by omega)
      · rw [pk_un (by omega)]
        exact D4 j hj
theorem fy_mk35 {post : Int32 → SY → Prop} {s : Nat} (hs : s < 6) (KO : Nat → Int32)
    (K : ∀ KE : Nat → Int32, (∀ j, j < 16 → KE (81 * s + j) = CL j) → (∀ j, j < 16 → KE (81 * s + 16 + j) = TY j) → (∀ j, j < 48 → KE (81 * s + 32 + j) = VL j) → (∀ j, j < 81 * s ∨ 81 * s + 80 ≤ j → KE j = KO j) → post (nI (s + 1)) (cn, (nI (s + 1)), BE, CL, TY, VL, FR, IG, PE, KE)) :
    ∀ n i (KE : Nat → Int32), 16 - i < n → i ≤ 16 → (∀ j, j < i → KE (81 * s + j) = CL j) → (∀ j, j < i → KE (81 * s + 16 + j) = TY j) → (∀ j, j < 81 * s ∨ 81 * s + 80 ≤ j → KE j = KO j) → wY_mark_35 post (nI (81 * s)) cn (nI s) n (nI i) BE CL TY VL FR IG PE KE := by
  intro n
  induction n with
  | zero => intro i KE h; omega
  | succ n ih =>
    intro i KE h hi D1 D2 D4
    rw [wY_mark_35]
    refine pk_le 16 i (fun z => ?_) (fun z => ?_)
    · exact ⟨49, fy_mk80 hs KO K 49 0 KE (by omega) (by omega) (fun j hj => D1 j (by omega)) (fun j hj => D2 j (by omega)) (fun j hj => by omega) D4⟩
    · rw [fu_c16 (81 * s) i, nI_add (81 * s) i]
      refine ⟨vp_in_nI z (by decide), vp_in_nI (by omega) (by decide), ?_⟩
      rw [nI_clamp (show 81 * s + 16 + i < 2 ^ 31 by omega), nI_clamp (show 81 * s + i < 2 ^ 31 by omega), nI_clamp (show i < 2 ^ 31 by omega)]
      refine nm_e ⟨vp_in_nI z (by decide), vp_in_nI (by omega) (by decide), nm_e (nm_r (nI_1 i) (ih (i + 1) _ (by omega) (by omega) (fun j hj => ?_) (fun j hj => ?_) (fun j hj => ?_)))⟩
      · rw [pk_un (by omega)]
        by_cases w : j = i
        · rw [w, pk_us]
        · rw [pk_un (by omega)]
          exact D1 j (by omega)
      · by_cases w : j = i
        · rw [w, pk_us]
        · rw [pk_un (by omega), pk_un (by omega)]
          exact D2 j (by omega)
      · rw [pk_un (by omega), pk_un (by omega)]
        exact D4 j hj
theorem fy_mk {post : Int32 → SY → Prop} {s : Nat} (hs : s < 6)
    (K : ∀ KE' : Nat → Int32, (∀ j, j < 16 → KE' (81 * s + j) = CL j) → (∀ j, j < 16 → KE' (81 * s + 16 + j) = TY j) → (∀ j, j < 48 → KE' (81 * s + 32 + j) = VL j) → KE' (81 * s + 80) = cn → (∀ j, j < 81 * s → KE' j = KE j) → post (nI (s + 1)) (cn, (nI (s + 1)), BE, CL, TY, VL, FR, IG, PE, KE')) : wpY_mark post (cn, (nI s), BE, CL, TY, VL, FR, IG, PE, KE) := by
  unfold wpY_mark
  refine pk_eq s 6 (fun z => by omega) (fun _ => ?_)
  refine nm_r (fu_81x s) ?_
  rw [fu_c80 (81 * s)]
  refine ⟨vp_in_nI (by omega) (by decide), ?_⟩
  rw [nI_clamp (show 81 * s + 80 < 2 ^ 31 by omega)]
  refine nm_e ⟨17, fy_mk35 hs (upd KE (81 * s + 80) cn) (fun KE2 a b c d => K KE2 a b c ?_ (fun j hj => ?_)) 17 0 _ (by omega) (by omega) (fun j hj => by omega) (fun j hj => by omega) (fun j _ => rfl)⟩
  · rw [d _ (Or.inr (Nat.le_refl _)), pk_us]
  · rw [d j (Or.inl hj), pk_un (by omega)]
theorem fy_ba88 {post : Int32 → SY → Prop} {s : Nat} (hs : s < 6) : ∀ n i (VL : Nat → Int32), 48 - i < n → i ≤ 48 → post mk (cn, mk, BE, CL, TY, (fu_ri KE (81 * s + 32) i 48 VL), FR, IG, PE, KE) → wY_back_88 post (nI (81 * s)) cn mk n (nI i) BE CL TY VL FR IG PE KE := by
  intro n
  induction n with
  | zero => intro i VL h; omega
  | succ n ih =>
    intro i VL h hi k
    rw [wY_back_88]
    refine pk_le 48 i (fun z => ?_) (fun z => ?_)
    · rw [fu_ri_e z] at k
      exact k
    · rw [fu_c32 (81 * s) i]
      refine ⟨vp_in_nI (by omega) (by decide), vp_in_nI z (by decide), ?_⟩
      rw [nI_clamp (show 81 * s + 32 + i < 2 ^ 31 by omega), nI_clamp (show i < 2 ^ 31 by omega)]
      rw [← fu_ri_s z] at k
      exact nm_e (nm_r (nI_1 i) (ih (i + 1) _ (by omega) (by omega) k))
theorem fy_ba43 {post : Int32 → SY → Prop} {s : Nat} (hs : s < 6) : ∀ n i (CL TY : Nat → Int32), 16 - i < n → i ≤ 16 → post mk (cn, mk, BE, (fu_ri KE (81 * s) i 16 CL), (fu_ri KE (81 * s + 16) i 16 TY), (fu_ri KE (81 * s + 32) 0 48 VL), FR, IG, PE, KE) → wY_back_43 post (nI (81 * s)) cn mk n (nI i) BE CL TY VL FR IG PE KE := by
  intro n
  induction n with
  | zero => intro i CL TY h; omega
  | succ n ih =>
    intro i CL TY h hi k
    rw [wY_back_43]
    refine pk_le 16 i (fun z => ?_) (fun z => ?_)
    · rw [fu_ri_e z, fu_ri_e z] at k
      exact ⟨49, fy_ba88 hs 49 0 VL (by omega) (by omega) k⟩
    · rw [fu_c16 (81 * s) i, nI_add (81 * s) i]
      refine ⟨vp_in_nI (by omega) (by decide), vp_in_nI z (by decide), ?_⟩
      rw [nI_clamp (show 81 * s + 16 + i < 2 ^ 31 by omega), nI_clamp (show 81 * s + i < 2 ^ 31 by omega), nI_clamp (show i < 2 ^ 31 by omega)]
      rw [← fu_ri_s (A := CL) z, ← fu_ri_s (A := TY) z] at k
      exact nm_e ⟨vp_in_nI (by omega) (by decide), vp_in_nI z (by decide), nm_e (nm_r (nI_1 i) (ih (i + 1) _ _ (by omega) (by omega) k))⟩
theorem fy_ba {post : Int32 → SY → Prop} {s : Nat} (hs : s < 6) (k : post (nI s) ((KE (81 * s + 80)), (nI s), BE, (fu_ri KE (81 * s) 0 16 CL), (fu_ri KE (81 * s + 16) 0 16 TY), (fu_ri KE (81 * s + 32) 0 48 VL), FR, IG, PE, KE)) : wpY_back post (cn, (nI (s + 1)), BE, CL, TY, VL, FR, IG, PE, KE) := by
  unfold wpY_back
  refine br_f (nI_ne0 (by omega) (by omega)) (nm_r (nI_pred s) (nm_r (fu_81x s) ?_))
  rw [fu_c80 (81 * s)]
  refine ⟨vp_in_nI (by omega) (by decide), ?_⟩
  rw [nI_clamp (show 81 * s + 80 < 2 ^ 31 by omega)]
  exact nm_e ⟨17, fy_ba43 hs 17 0 CL TY (by omega) (by omega) k⟩
def fu_f0 : Nat → Int32 → Int32 := fun j _ => (1 : Int32) <<< (nI j &&& 31)
theorem fy_in80 {post : SY → Prop} : ∀ n i (BE : Nat → Int32), 8 - i < n → i ≤ 8 → post (cn, mk, (fu_mp fu_f0 i 8 BE), CL, TY, VL, FR, IG, PE, KE) → wY_init_80 post cn mk n (nI i) BE CL TY VL FR IG PE KE := by
  intro n
  induction n with
  | zero => intro i BE h; omega
  | succ n ih =>
    intro i BE h hi k
    rw [wY_init_80]
    refine pk_le 8 i (fun z => ?_) (fun z => ?_)
    · rw [fu_mp_e z] at k
      exact k
    · refine ⟨vp_in_nI z (by decide), ?_⟩
      rw [nI_clamp (show i < 2 ^ 31 by omega)]
      rw [← fu_mp_s (A := BE) z] at k
      exact nm_e (nm_r (nI_1 i) (ih (i + 1) _ (by omega) (by omega) k))
end
section
variable {nC mC pC : Int32} {LT TL CA TA VA SN SC ST SV PL PR IM : Nat → Int32}
theorem fx_in118 {post : SX → Prop} : ∀ n i (LT : Nat → Int32), 8 - i < n → i ≤ 8 → post (nC, mC, pC, (upd (fu_mp fu_f0 i 8 LT) 0 255), TL, CA, TA, VA, SN, SC, ST, SV, PL, PR, IM) → wX_init_118 post nC mC pC n (nI i) LT TL CA TA VA SN SC ST SV PL PR IM := by
  intro n
  induction n with
  | zero => intro i LT h; omega
  | succ n ih =>
    intro i LT h hi k
    rw [wX_init_118]
    refine pk_le 8 i (fun z => ?_) (fun z => ?_)
    · rw [fu_mp_e z] at k
      exact nm_e k
    · refine ⟨vp_in_nI z (by decide), ?_⟩
      rw [nI_clamp (show i < 2 ^ 31 by omega)]
      rw [← fu_mp_s (A := LT) z] at k
      exact nm_e (nm_r (nI_1 i) (ih (i + 1) _ (by omega) (by omega) k))
end
end
section
/-! the relation -/
def fu_RS (nX : Int32) (CA TA VA : Nat → Int32) (nY : Int32) (CL TY VL : Nat → Int32) : Prop :=
  ∃ cnt c t v, fu_WF cnt c t v ∧ nX = nI cnt ∧ nY = nI cnt ∧ fu_PC cnt c t v CA TA VA ∧ fu_PC cnt c t v CL TY VL
theorem fu_PC_cg {cnt : Nat} {c t : Nat → Nat} {v : Nat → Nat → Option Nat} {A T V A2 T2 V2 : Nat → Int32} (hc : cnt ≤ 16) (P : fu_PC cnt c t v A T V) (h1 : ∀ j, j < 16 → A2 j = A j) (h2 : ∀ j, j < 16 → T2 j = T j) (h3 : ∀ j, j < 48 → V2 j = V j) : fu_PC cnt c t v A2 T2 V2 :=
  ⟨fun p hp => (h1 p (by omega)).trans (P.1 p hp), fun p hp e => (h2 p (by omega)).trans (P.2.1 p hp e), fun p f hp e hf => (h3 (3 * p + f) (by omega)).trans (P.2.2 p f hp e hf)⟩
def fu_MS (q : Nat) (SN SC ST SV KE : Nat → Int32) : Prop :=
  ∀ s, s < q → fu_RS (SN s) (fun j => SC (s * 16 + j)) (fun j => ST (s * 16 + j)) (fun j => SV (s * 48 + j)) (KE (81 * s + 80)) (fun j => KE (81 * s + j)) (fun j => KE (81 * s + 16 + j)) (fun j => KE (81 * s + 32 + j))
/-- the same hierarchy, the same nodes (types and values at the leaders), the same marks -/
def i_Rel (_ : Nat) (u : SX) (v : SY) : Prop := match u, v with
  | (nC, mC, _, LT, _, CA, TA, VA, SN, SC, ST, SV, _, _, _), (cn, mY, BE, CL, TY, VL, _, _, _, KE) =>
    ∃ lo q cnt c t w, fu_Fit lo ∧ (∀ t, t < 8 → LT t = lo t) ∧ (∀ t, t < 8 → BE t = lo t) ∧ fu_WF cnt c t w ∧ nC = nI cnt ∧ cn = nI cnt ∧ fu_PC cnt c t w CA TA VA ∧ fu_PC cnt c t w CL TY VL ∧ q ≤ 6 ∧ mC = nI q ∧ mY = nI q ∧ fu_MS q SN SC ST SV KE
theorem i_up {k : Nat} {u : SX} {v : SY} (h : i_Rel k u v) : i_Rel (k + 4) u v := h
section
variable {nC mC pC : Int32} {LT TL CA TA VA SN SC ST SV PL PR IM : Nat → Int32}
variable {cn mk : Int32} {BE CL TY VL FR IG PE KE : Nat → Int32}
theorem fu_Ri {k : Nat} {lo : Nat → Int32} {q cnt : Nat} {c t : Nat → Nat} {w : Nat → Nat → Option Nat} (F : fu_Fit lo) (l1 : ∀ t, t < 8 → LT t = lo t) (l2 : ∀ t, t < 8 → BE t = lo t) (W : fu_WF cnt c t w) (P1 : fu_PC cnt c t w CA TA VA) (P2 : fu_PC cnt c t w CL TY VL) (hq : q ≤ 6) (M : fu_MS q SN SC ST SV KE) : i_Rel k ((nI cnt), (nI q), pC, LT, TL, CA, TA, VA, SN, SC, ST, SV, PL, PR, IM) ((nI cnt), (nI q), BE, CL, TY, VL, FR, IG, PE, KE) := by
  unfold i_Rel
  exact ⟨lo, q, cnt, c, t, w, F, l1, l2, W, rfl, rfl, P1, P2, hq, rfl, rfl, M⟩
end
/-! a new node, a new value -/
section
variable {cnt : Nat} {c t : Nat → Nat} {v : Nat → Nat → Option Nat}
theorem fu_nd_W (W : fu_WF cnt c t v) (hc : cnt < 16) {a : Nat} (ha : a < 8) : fu_WF (cnt + 1) (fun p => if p = cnt then cnt else c p) (fun p => if p = cnt then a else t p) (fun p f => if p = cnt then none else v p f) := by
  obtain ⟨w1, w2, w3, w4⟩ := W
  refine ⟨by omega, fun p hp => ?_, fun p hp e => ?_, fun p f d hp e hf hv => ?_⟩
  · show (if p = cnt then cnt else c p) ≤ p ∧ (if (if p = cnt then cnt else c p) = cnt then cnt else c (if p = cnt then cnt else c p)) = if p = cnt then cnt else c p
    by_cases z : p = cnt
    · rw [if_pos z, if_pos rfl]
      exact ⟨by omega, rfl⟩
    · have := w2 p (by omega)
      rw [if_neg z, if_neg (by omega)]
      exact this
  · have e : (if p = cnt then cnt else c p) = p := e
    show (if p = cnt then a else t p) < 8
    by_cases z : p = cnt
    · rw [if_pos z]; exact ha
    · rw [if_neg z] at e ⊢
      exact w3 p (by omega) e
  · have e : (if p = cnt then cnt else c p) = p := e
    have hv : (if p = cnt then none else v p f) = some d := hv
    show d < cnt + 1 ∧ (if d = cnt then cnt else c d) = d
    by_cases z : p = cnt
    · rw [if_pos z] at hv
      exact nomatch hv
    · rw [if_neg z] at e hv
      have k := w4 p f d (by omega) e hf hv
      rw [if_neg (by omega)]
      exact ⟨by omega, k.2⟩
theorem fu_nd_P {A T V V2 : Nat → Int32} (P : fu_PC cnt c t v A T V) {a : Nat} (h1 : ∀ f, f < 3 → V2 (3 * cnt + f) = -4) (h2 : ∀ j, j < 3 * cnt → V2 j = V j) : fu_PC (cnt + 1) (fun p => if p = cnt then cnt else c p) (fun p => if p = cnt then a else t p) (fun p f => if p = cnt then none else v p f) (upd A cnt (nI cnt)) (upd T cnt (nI a)) V2 := by
  refine ⟨fun p hp => ?_, fun p hp e => ?_, fun p f hp e hf => ?_⟩
  · show upd A cnt (nI cnt) p = nI (if p = cnt then cnt else c p)
    by_cases z : p = cnt
    · rw [if_pos z, z, pk_us]
    · rw [if_neg z, pk_un z]
      exact P.1 p (by omega)
  · have e : (if p = cnt then cnt else c p) = p := e
    show upd T cnt (nI a) p = nI (if p = cnt then a else t p)
    by_cases z : p = cnt
    · rw [if_pos z, z, pk_us]
    · rw [if_neg z] at e ⊢
      rw [pk_un z]
      exact P.2.1 p (by omega) e
  · have e : (if p = cnt then cnt else c p) = p := e
    show V2 (3 * p + f) = fu_v (if p = cnt then none else v p f)
    by_cases z : p = cnt
    · rw [if_pos z, z, h1 f hf]
      rfl
    · rw [if_neg z] at e ⊢
      rw [h2 _ (by omega)]
      exact P.2.2 p f (by omega) e hf
theorem fu_ar_W (W : fu_WF cnt c t v) {x y g : Nat} (hy : y < cnt) (ey : c y = y) : fu_WF cnt c t (fun p f => if p = x ∧ f = g then some y else v p f) := by
  obtain ⟨w1, w2, w3, w4⟩ := W
  refine ⟨w1, w2, w3, fun p f d hp e hf hv => ?_⟩
  have hv : (if p = x ∧ f = g then some y else v p f) = some d := hv
  by_cases z : p = x ∧ f = g
  · rw [if_pos z] at hv
    cases hv
    exact ⟨hy, ey⟩
  · rw [if_neg z] at hv
    exact w4 p f d hp e hf hv
theorem fu_ar_P {A T V : Nat → Int32} (P : fu_PC cnt c t v A T V) {x y g : Nat} (hg : g < 3) : fu_PC cnt c t (fun p f => if p = x ∧ f = g then some y else v p f) A T (upd V (3 * x + g) (nI y)) := by
  refine ⟨P.1, P.2.1, fun p f hp e hf => ?_⟩
  show upd V (3 * x + g) (nI y) (3 * p + f) = fu_v (if p = x ∧ f = g then some y else v p f)
  by_cases z : p = x ∧ f = g
  · rw [if_pos z, z.1, z.2, pk_us]
    rfl
  · rw [if_neg z, pk_un (by omega)]
    exact P.2.2 p f hp e hf
end
/-! marks -/
theorem fu_MS_le {q r : Nat} {SN SC ST SV KE : Nat → Int32} (M : fu_MS q SN SC ST SV KE) (h : r ≤ q) : fu_MS r SN SC ST SV KE := fun s hs => M s (by omega)
theorem fu_RS_cg {nX nY : Int32} {CA TA VA CL TY VL CA2 TA2 VA2 CL2 TY2 VL2 : Nat → Int32} (H : fu_RS nX CA TA VA nY CL TY VL) (h1 : ∀ j, j < 16 → CA2 j = CA j) (h2 : ∀ j, j < 16 → TA2 j = TA j) (h3 : ∀ j, j < 48 → VA2 j = VA j) (h4 : ∀ j, j < 16 → CL2 j = CL j) (h5 : ∀ j, j < 16 → TY2 j = TY j) (h6 : ∀ j, j < 48 → VL2 j = VL j) : fu_RS nX CA2 TA2 VA2 nY CL2 TY2 VL2 := by
  obtain ⟨cnt, c, t, v, W, e1, e2, P1, P2⟩ := H
  exact ⟨cnt, c, t, v, W, e1, e2, fu_PC_cg W.1 P1 h1 h2 h3, fu_PC_cg W.1 P2 h4 h5 h6⟩
/-- the trial slot lies behind the marks -/
theorem fu_MS_6 {q : Nat} {x : Int32} {SN SC ST SV KE CA TA VA : Nat → Int32} (M : fu_MS q SN SC ST SV KE) {z : Nat} (hz : q ≤ z) : fu_MS q (upd SN z x) (fu_ci CA (z * 16) 0 16 SC) (fu_ci TA (z * 16) 0 16 ST) (fu_ci VA (z * 48) 0 48 SV) KE := by
  intro s hs
  rw [pk_un (show s ≠ z by omega)]
  exact fu_RS_cg (M s hs) (fun j hj => fu_ci_out (by omega)) (fun j hj => fu_ci_out (by omega)) (fun j hj => fu_ci_out (by omega)) (fun _ _ => rfl) (fun _ _ => rfl) (fun _ _ => rfl)
theorem fu_MS_s {q cnt : Nat} {c t : Nat → Nat} {v : Nat → Nat → Option Nat} {SN SC ST SV KE KE2 CA TA VA CL TY VL : Nat → Int32} (M : fu_MS q SN SC ST SV KE) (W : fu_WF cnt c t v) (P1 : fu_PC cnt c t v CA TA VA) (P2 : fu_PC cnt c t v CL TY VL)
    (h1 : ∀ j, j < 16 → KE2 (81 * q + j) = CL j) (h2 : ∀ j, j < 16 → KE2 (81 * q + 16 + j) = TY j) (h3 : ∀ j, j < 48 → KE2 (81 * q + 32 + j) = VL j) (h4 : KE2 (81 * q + 80) = nI cnt) (h5 : ∀ j, j < 81 * q → KE2 j = KE j) :
    fu_MS (q + 1) (upd SN q (nI cnt)) (fu_ci CA (q * 16) 0 16 SC) (fu_ci TA (q * 16) 0 16 ST) (fu_ci VA (q * 48) 0 48 SV) KE2 := by
  intro s hs
  by_cases z : s = q
  · subst z
    rw [pk_us, h4]
    exact ⟨cnt, c, t, v, W, rfl, rfl, fu_PC_cg W.1 P1 (fun j hj => fu_ci_in hj) (fun j hj => fu_ci_in hj) (fun j hj => fu_ci_in hj), fu_PC_cg W.1 P2 h1 h2 h3⟩
  · rw [pk_un z, h5 _ (by omega)]
    exact fu_RS_cg (M s (by omega)) (fun j hj => fu_ci_out (by omega)) (fun j hj => fu_ci_out (by omega)) (fun j hj => fu_ci_out (by omega)) (fun j hj => h5 _ (by omega)) (fun j hj => h5 _ (by omega)) (fun j hj => h5 _ (by omega))
end
section
/-! what is owed -/
theorem i_vc0 : wpX_init (fun u => wpY_init (fun v => i_Rel 0 u v)) := by
  unfold wpX_init
  refine ⟨9, fx_in118 9 0 (fun _ => 0) (by omega) (by omega) ?_⟩
  unfold wpY_init
  refine nm_e ⟨9, fy_in80 9 1 (upd (fun _ => 0) 0 255) (by omega) (by omega) ?_⟩
  refine fu_Ri (cnt := 0) (q := 0) (c := fun _ => 0) (t := fun _ => 0) (w := fun _ _ => none) fu_l0_fit (fun t ht => ?_) (fun t ht => ?_) ⟨by omega, fun p hp => by omega, fun p hp => by omega, fun p f d hp => by omega⟩ ⟨fun p hp => by omega, fun p hp => by omega, fun p f hp => by omega⟩ ⟨fun p hp => by omega, fun p hp => by omega, fun p f hp => by omega⟩ (by omega) (fun s hs => by omega)
  · unfold fu_l0
    by_cases z : t = 0
    · rw [if_pos z, z, pk_us]
    · rw [if_neg z, if_pos ht, pk_un z, fu_mp_in (by omega) ht]
      rfl
  · unfold fu_l0
    by_cases z : t = 0
    · rw [if_pos z, z, fu_mp_out (by omega), pk_us]
    · rw [if_neg z, if_pos ht, fu_mp_in (by omega) ht]
      rfl
theorem i_vc_under {k : Nat} {u : SX} {v : SY} (I : i_Rel k u v) (hk : k + 4 ≤ 2048) (v1 : Int32) (v2 : Int32) : wpX_under (fun r u' => wpY_under (fun r' v' => r' = r ∧ i_Rel (k + 4) u' v') v v1 v2) u v1 v2 := by
  have J := i_up I
  obtain ⟨nC, mC, pC, LT, TL, CA, TA, VA, SN, SC, ST, SV, PL, PR, IM⟩ := u
  obtain ⟨cn, mk, BE, CL, TY, VL, FR, IG, PE, KE⟩ := v
  obtain ⟨lo, q, cnt, c, t, w, F, l1, l2, W, rfl, rfl, P1, P2, hq, rfl, rfl, M⟩ := I
  rcases pk_ix v1 (n := 8) (by decide) with h | h | ⟨a, ha, rfl⟩
  · unfold wpX_under
    refine fx_ty_n (Or.inl h) (br_t rfl ?_)
    unfold wpY_under
    exact fy_ty_n (Or.inl h) (br_t rfl ⟨rfl, J⟩)
  · unfold wpX_under
    refine fx_ty_n (Or.inr h) (br_t rfl ?_)
    unfold wpY_under
    exact fy_ty_n (Or.inr h) (br_t rfl ⟨rfl, J⟩)
  · have B : ∀ x : Int32, (x < 0 ∨ nI 8 ≤ x) → wpX_under (fun r u' => wpY_under (fun r' v' => r' = r ∧ i_Rel (k + 4) u' v') ((nI cnt), (nI q), BE, CL, TY, VL, FR, IG, PE, KE) (nI a) x) ((nI cnt), (nI q), pC, LT, TL, CA, TA, VA, SN, SC, ST, SV, PL, PR, IM) (nI a) x := by
      intro x h
      unfold wpX_under
      refine fx_ty_y ha (br_f (by decide) (fx_ty_n h (br_t rfl ?_)))
      unfold wpY_under
      exact fy_ty_y ha (br_f (by decide) (fy_ty_n h (br_t rfl ⟨rfl, J⟩)))
    rcases pk_ix v2 (n := 8) (by decide) with h | h | ⟨b, hb, rfl⟩
    · exact B v2 (Or.inl h)
    · exact B v2 (Or.inr h)
    · by_cases h0 : 0 < cnt
      · have w1 := W.1
        unfold wpX_under
        refine fx_ty_y ha (br_f (by decide) (fx_ty_y hb (br_f (by decide) (br_f (nI_nle h0 (by omega)) ?_))))
        unfold wpY_under
        exact fy_ty_y ha (br_f (by decide) (fy_ty_y hb (br_f (by decide) (br_f (nI_nle h0 (by omega)) ⟨rfl, J⟩))))
      · have e0 : cnt = 0 := by omega
        subst e0
        have np := fu_nw_pre F.1 ha hb
        refine fx_under l1 ha hb (fun n hb2 => ?_) (fun ho ok TL' => ?_) (fun ho ok LT' TL' l1' => ?_)
        · have no := fu_turn F.1 ha hb n hb2
          exact fy_under l2 ha hb (fun _ BE' FR' l2' => ⟨rfl, fu_Ri F l1 l2' W P1 P2 hq M⟩) (fun ok => absurd ok no)
        · have na := fu_nw_ant F.1 F.2.1 ha hb ho
          exact fy_under l2 ha hb (fun _ BE' FR' l2' => ⟨rfl, fu_Ri F l1 l2' W P1 P2 hq M⟩) (fun ok2 => absurd ((fu_ok np na).mp ok2) ok)
        · have na := fu_nw_ant F.1 F.2.1 ha hb ho
          exact fy_under l2 ha hb (fun no => absurd ((fu_ok np na).mpr ok) no) (fun _ BE' FR' l2' => ⟨rfl, fu_Ri ⟨np, na, fu_okX_mee ok⟩ l1' l2' W P1 P2 hq M⟩)
theorem i_vc_isUnder {k : Nat} {u : SX} {v : SY} (I : i_Rel k u v) (hk : k + 4 ≤ 2048) (v1 : Int32) (v2 : Int32) : wpX_isUnder (fun r => wpY_isUnder (fun r' => r' = r ∧ i_Rel (k + 4) u v) v v1 v2) u v1 v2 := by
  have J := i_up I
  obtain ⟨nC, mC, pC, LT, TL, CA, TA, VA, SN, SC, ST, SV, PL, PR, IM⟩ := u
  obtain ⟨cn, mk, BE, CL, TY, VL, FR, IG, PE, KE⟩ := v
  obtain ⟨lo, q, cnt, c, t, w, F, l1, l2, W, rfl, rfl, P1, P2, hq, rfl, rfl, M⟩ := I
  have A : ∀ x y : Int32, (x < 0 ∨ nI 8 ≤ x) → wpX_isUnder (fun r => wpY_isUnder (fun r' => r' = r ∧ i_Rel (k + 4) ((nI cnt), (nI q), pC, LT, TL, CA, TA, VA, SN, SC, ST, SV, PL, PR, IM) ((nI cnt), (nI q), BE, CL, TY, VL, FR, IG, PE, KE)) ((nI cnt), (nI q), BE, CL, TY, VL, FR, IG, PE, KE) x y) ((nI cnt), (nI q), pC, LT, TL, CA, TA, VA, SN, SC, ST, SV, PL, PR, IM) x y := by
    intro x y h
    unfold wpX_isUnder
    refine fx_ty_n h (br_t rfl ?_)
    unfold wpY_isUnder
    exact fy_ty_n h (br_t rfl ⟨rfl, J⟩)
  rcases pk_ix v1 (n := 8) (by decide) with h | h | ⟨a, ha, rfl⟩
  · exact A v1 v2 (Or.inl h)
  · exact A v1 v2 (Or.inr h)
  · have B : ∀ x : Int32, (x < 0 ∨ nI 8 ≤ x) → wpX_isUnder (fun r => wpY_isUnder (fun r' => r' = r ∧ i_Rel (k + 4) ((nI cnt), (nI q), pC, LT, TL, CA, TA, VA, SN, SC, ST, SV, PL, PR, IM) ((nI cnt), (nI q), BE, CL, TY, VL, FR, IG, PE, KE)) ((nI cnt), (nI q), BE, CL, TY, VL, FR, IG, PE, KE) (nI a) x) ((nI cnt), (nI q), pC, LT, TL, CA, TA, VA, SN, SC, ST, SV, PL, PR, IM) (nI a) x := by
      intro x h
      unfold wpX_isUnder
      refine fx_ty_y ha (br_f (by decide) (fx_ty_n h (br_t rfl ?_)))
      unfold wpY_isUnder
      exact fy_ty_y ha (br_f (by decide) (fy_ty_n h (br_t rfl ⟨rfl, J⟩)))
    rcases pk_ix v2 (n := 8) (by decide) with h | h | ⟨b, hb, rfl⟩
    · exact B v2 (Or.inl h)
    · exact B v2 (Or.inr h)
    · unfold wpX_isUnder
      refine fx_ty_y ha (br_f (by decide) (fx_ty_y hb (br_f (by decide) (fx_lu ha hb ?_))))
      rw [l1 b hb]
      have S : ∀ r : Int32, r = fu_b (bt (lo b) a) → wpY_isUnder (fun r' => r' = r ∧ i_Rel (k + 4) ((nI cnt), (nI q), pC, LT, TL, CA, TA, VA, SN, SC, ST, SV, PL, PR, IM) ((nI cnt), (nI q), BE, CL, TY, VL, FR, IG, PE, KE)) ((nI cnt), (nI q), BE, CL, TY, VL, FR, IG, PE, KE) (nI a) (nI b) := by
        intro r er
        subst er
        unfold wpY_isUnder
        refine fy_ty_y ha (br_f (by decide) (fy_ty_y hb (br_f (by decide) ⟨vp_in_nI hb (by decide), ?_⟩)))
        rw [nI_clamp (show b < 2 ^ 31 by omega), l2 b hb]
        refine fy_ha (by omega) ?_
        cases y : bt (lo b) a with
        | true => exact br_f (by decide) ⟨rfl, J⟩
        | false => exact br_t rfl ⟨rfl, J⟩
      cases y : bt (lo b) a with
      | true =>
        rw [y] at S
        exact br_f (by decide) (S 1 rfl)
      | false =>
        rw [y] at S
        exact br_t rfl (S 0 rfl)
theorem i_vc_meet {k : Nat} {u : SX} {v : SY} (I : i_Rel k u v) (hk : k + 4 ≤ 2048) (v1 : Int32) (v2 : Int32) : wpX_meet (fun r => wpY_meet (fun r' => r' = r ∧ i_Rel (k + 4) u v) v v1 v2) u v1 v2 := by
  have J := i_up I
  obtain ⟨nC, mC, pC, LT, TL, CA, TA, VA, SN, SC, ST, SV, PL, PR, IM⟩ := u
  obtain ⟨cn, mk, BE, CL, TY, VL, FR, IG, PE, KE⟩ := v
  obtain ⟨lo, q, cnt, c, t, w, F, l1, l2, W, rfl, rfl, P1, P2, hq, rfl, rfl, M⟩ := I
  have A : ∀ x y : Int32, (x < 0 ∨ nI 8 ≤ x) → wpX_meet (fun r => wpY_meet (fun r' => r' = r ∧ i_Rel (k + 4) ((nI cnt), (nI q), pC, LT, TL, CA, TA, VA, SN, SC, ST, SV, PL, PR, IM) ((nI cnt), (nI q), BE, CL, TY, VL, FR, IG, PE, KE)) ((nI cnt), (nI q), BE, CL, TY, VL, FR, IG, PE, KE) x y) ((nI cnt), (nI q), pC, LT, TL, CA, TA, VA, SN, SC, ST, SV, PL, PR, IM) x y := by
    intro x y h
    unfold wpX_meet
    refine fx_ty_n h (br_t rfl ?_)
    unfold wpY_meet
    exact fy_ty_n h (br_t rfl ⟨rfl, J⟩)
  rcases pk_ix v1 (n := 8) (by decide) with h | h | ⟨a, ha, rfl⟩
  · exact A v1 v2 (Or.inl h)
  · exact A v1 v2 (Or.inr h)
  · have B : ∀ x : Int32, (x < 0 ∨ nI 8 ≤ x) → wpX_meet (fun r => wpY_meet (fun r' => r' = r ∧ i_Rel (k + 4) ((nI cnt), (nI q), pC, LT, TL, CA, TA, VA, SN, SC, ST, SV, PL, PR, IM) ((nI cnt), (nI q), BE, CL, TY, VL, FR, IG, PE, KE)) ((nI cnt), (nI q), BE, CL, TY, VL, FR, IG, PE, KE) (nI a) x) ((nI cnt), (nI q), pC, LT, TL, CA, TA, VA, SN, SC, ST, SV, PL, PR, IM) (nI a) x := by
      intro x h
      unfold wpX_meet
      refine fx_ty_y ha (br_f (by decide) (fx_ty_n h (br_t rfl ?_)))
      unfold wpY_meet
      exact fy_ty_y ha (br_f (by decide) (fy_ty_n h (br_t rfl ⟨rfl, J⟩)))
    rcases pk_ix v2 (n := 8) (by decide) with h | h | ⟨b, hb, rfl⟩
    · exact B v2 (Or.inl h)
    · exact B v2 (Or.inr h)
    · unfold wpX_meet
      refine fx_ty_y ha (br_f (by decide) (fx_ty_y hb (br_f (by decide) (fx_mi l1 ha hb ?_))))
      unfold wpY_meet
      refine fy_ty_y ha (br_f (by decide) (fy_ty_y hb (br_f (by decide) ⟨vp_in_nI ha (by decide), vp_in_nI hb (by decide), ?_⟩)))
      rw [nI_clamp (show a < 2 ^ 31 by omega), nI_clamp (show b < 2 ^ 31 by omega), l2 a ha, l2 b hb]
      exact fy_gr l2 ⟨fu_gm F.1 ha hb, J⟩
theorem i_vc_node {k : Nat} {u : SX} {v : SY} (I : i_Rel k u v) (hk : k + 4 ≤ 2048) (v1 : Int32) : wpX_node (fun r u' => wpY_node (fun r' v' => r' = r ∧ i_Rel (k + 4) u' v') v v1) u v1 := by
  have J := i_up I
  obtain ⟨nC, mC, pC, LT, TL, CA, TA, VA, SN, SC, ST, SV, PL, PR, IM⟩ := u
  obtain ⟨cn, mk, BE, CL, TY, VL, FR, IG, PE, KE⟩ := v
  obtain ⟨lo, q, cnt, c, t, w, F, l1, l2, W, rfl, rfl, P1, P2, hq, rfl, rfl, M⟩ := I
  have w1 := W.1
  have A : ∀ x : Int32, (x < 0 ∨ nI 8 ≤ x) → wpX_node (fun r u' => wpY_node (fun r' v' => r' = r ∧ i_Rel (k + 4) u' v') ((nI cnt), (nI q), BE, CL, TY, VL, FR, IG, PE, KE) x) ((nI cnt), (nI q), pC, LT, TL, CA, TA, VA, SN, SC, ST, SV, PL, PR, IM) x := by
    intro x h
    unfold wpX_node
    refine fx_ty_n h (br_t rfl ?_)
    unfold wpY_node
    exact fy_ty_n h (br_t rfl ⟨rfl, J⟩)
  rcases pk_ix v1 (n := 8) (by decide) with h | h | ⟨a, ha, rfl⟩
  · exact A v1 (Or.inl h)
  · exact A v1 (Or.inr h)
  · by_cases h16 : cnt < 16
    · unfold wpX_node
      refine fx_ty_y ha (br_f (by decide) (br_t (nI_lt (b := 16) h16 (by decide)) ⟨vp_in_nI h16 (by decide), ?_⟩))
      rw [nI_clamp (show cnt < 2 ^ 31 by omega)]
      refine nm_e ⟨vp_in_nI h16 (by decide), nm_e ⟨4, fx_no42 h16 4 0 VA (by omega) (by omega) ?_⟩⟩
      unfold wpY_node
      refine fy_ty_y ha (br_f (by decide) (pk_eq cnt 16 (fun z => by omega) (fun _ => ⟨vp_in_nI h16 (by decide), ?_⟩)))
      rw [nI_clamp (show cnt < 2 ^ 31 by omega), fu_3x cnt, nI_1 (3 * cnt), show nI (3 * cnt) + 2 = nI (3 * cnt + 2) from nI_add (3 * cnt) 2]
      rw [nI_clamp (show 3 * cnt < 2 ^ 31 by omega), nI_clamp (show 3 * cnt + 1 < 2 ^ 31 by omega), nI_clamp (show 3 * cnt + 2 < 2 ^ 31 by omega)]
      refine nm_e ⟨vp_in_nI h16 (by decide), nm_e ⟨vp_in_nI (by omega) (by decide), nm_e ⟨vp_in_nI (by omega) (by decide), nm_e ⟨vp_in_nI (by omega) (by decide), nm_e (nm_r (nI_1 cnt) ⟨nI_pred cnt, ?_⟩)⟩⟩⟩⟩
      refine fu_Ri F l1 l2 (fu_nd_W W h16 ha) (fu_nd_P P1 (fun f hf => ?_) (fun j hj => ?_)) (fu_nd_P P2 (fun f hf => ?_) (fun j hj => ?_)) hq M
      · rw [fu_mp_in (by omega) (by omega)]
      · rw [fu_mp_out (by omega)]
      · by_cases z2 : f = 2
        · rw [z2, pk_us]
        · by_cases z1 : f = 1
          · rw [z1, pk_un (by omega), pk_us]
          · have z0 : f = 0 := by omega
            rw [z0, pk_un (by omega), pk_un (by omega)]
            exact pk_us
      · rw [pk_un (by omega), pk_un (by omega), pk_un (by omega)]
    · have e : cnt = 16 := by omega
      subst e
      unfold wpX_node
      refine fx_ty_y ha (br_f (by decide) (br_f (by decide) ?_))
      unfold wpY_node
      exact fy_ty_y ha (br_f (by decide) (br_t (by decide) ⟨rfl, J⟩))
theorem i_vc_nodes {k : Nat} {u : SX} {v : SY} (I : i_Rel k u v) (hk : k + 4 ≤ 2048) : wpX_nodes (fun r => wpY_nodes (fun r' => r' = r ∧ i_Rel (k + 4) u v) v) u := by
  have J := i_up I
  obtain ⟨nC, mC, pC, LT, TL, CA, TA, VA, SN, SC, ST, SV, PL, PR, IM⟩ := u
  obtain ⟨cn, mk, BE, CL, TY, VL, FR, IG, PE, KE⟩ := v
  obtain ⟨lo, q, cnt, c, t, w, F, l1, l2, W, rfl, rfl, P1, P2, hq, rfl, rfl, M⟩ := I
  unfold wpX_nodes wpY_nodes
  exact ⟨rfl, J⟩
end
section
/-! unify and unifiable -/
theorem fu_PC_g {cnt : Nat} {g c1 t1 : Nat → Nat} {v1 : Nat → Nat → Option Nat} {A T V : Nat → Int32} (E : ∀ p, p < cnt → g p = c1 p) (P : fu_PC cnt g t1 v1 A T V) : fu_PC cnt c1 t1 v1 A T V :=
  ⟨fun p hp => by rw [← E p hp]; exact P.1 p hp, fun p hp e => P.2.1 p hp ((E p hp).trans e), fun p f hp e hf => P.2.2 p f hp ((E p hp).trans e) hf⟩
theorem i_vc_unify {k : Nat} {u : SX} {v : SY} (I : i_Rel k u v) (hk : k + 4 ≤ 2048) (v1 : Int32) (v2 : Int32) : wpX_unify (fun r u' => wpY_unify (fun r' v' => r' = r ∧ i_Rel (k + 4) u' v') v v1 v2) u v1 v2 := by
  have J := i_up I
  obtain ⟨nC, mC, pC, LT, TL, CA, TA, VA, SN, SC, ST, SV, PL, PR, IM⟩ := u
  obtain ⟨cn, mk, BE, CL, TY, VL, FR, IG, PE, KE⟩ := v
  obtain ⟨lo, q, cnt, c, t, w, F, l1, l2, W, rfl, rfl, P1, P2, hq, rfl, rfl, M⟩ := I
  have w1 := W.1
  have A : ∀ x y : Int32, (x < 0 ∨ nI cnt ≤ x) → wpX_unify (fun r u' => wpY_unify (fun r' v' => r' = r ∧ i_Rel (k + 4) u' v') ((nI cnt), (nI q), BE, CL, TY, VL, FR, IG, PE, KE) x y) ((nI cnt), (nI q), pC, LT, TL, CA, TA, VA, SN, SC, ST, SV, PL, PR, IM) x y := by
    intro x y h
    unfold wpX_unify
    refine fx_no_n h (br_t rfl ?_)
    unfold wpY_unify
    exact fy_no_n h (br_t rfl ⟨rfl, J⟩)
  rcases pk_ix v1 (n := cnt) (by omega) with h | h | ⟨a, ha, rfl⟩
  · exact A v1 v2 (Or.inl h)
  · exact A v1 v2 (Or.inr h)
  · have B : ∀ x : Int32, (x < 0 ∨ nI cnt ≤ x) → wpX_unify (fun r u' => wpY_unify (fun r' v' => r' = r ∧ i_Rel (k + 4) u' v') ((nI cnt), (nI q), BE, CL, TY, VL, FR, IG, PE, KE) (nI a) x) ((nI cnt), (nI q), pC, LT, TL, CA, TA, VA, SN, SC, ST, SV, PL, PR, IM) (nI a) x := by
      intro x h
      unfold wpX_unify
      refine fx_no_y ha w1 (br_f (by decide) (fx_no_n h (br_t rfl ?_)))
      unfold wpY_unify
      exact fy_no_y ha w1 (br_f (by decide) (fy_no_n h (br_t rfl ⟨rfl, J⟩)))
    rcases pk_ix v2 (n := cnt) (by omega) with h | h | ⟨b, hb, rfl⟩
    · exact B v2 (Or.inl h)
    · exact B v2 (Or.inr h)
    · unfold wpX_unify
      refine fx_no_y ha w1 (br_f (by decide) (fx_no_y hb w1 (br_f (by decide) (fx_sv (s := 6) (by omega) ?_))))
      refine fx_mo W F l1 ha hb P1 (fun bad pC' CA' TA' VA' PL' PR' => ?_) (fun c1 t1 v1 L R a' pc X ha' pC' CA' TA' VA' PL' PR' PX => ?_)
      · refine br_t rfl (fx_rs (s := 6) (by omega) ?_)
        rw [pk_us]
        unfold wpY_unify
        refine fy_no_y ha w1 (br_f (by decide) (fy_no_y hb w1 (br_f (by decide) (fy_tu W P2 l2 ha hb (fun g FR' G FF H => ?_) (fun g FR' G H => ?_)))))
        · obtain ⟨p, hp, z⟩ := fu_Bad_0 bad G
          obtain ⟨s, S, nz⟩ := H p hp
          exact absurd (z s S) nz
        · refine br_t rfl ⟨rfl, fu_Ri F l1 l2 W (fu_PC_cg w1 P1 (fun j hj => ?_) (fun j hj => ?_) (fun j hj => ?_)) P2 hq (fu_MS_6 M hq)⟩
          · rw [fu_ri_in hj, fu_ci_in hj]
          · rw [fu_ri_in hj, fu_ci_in hj]
          · rw [fu_ri_in hj, fu_ci_in hj]
      · obtain ⟨Lx, Wx⟩ := fu_Xe W X ha'
        refine br_f (by decide) (fx_cc w1 (fun p hp => (Wx.2.1 p hp).1) PX.1 ?_)
        unfold wpY_unify
        refine fy_no_y ha w1 (br_f (by decide) (fy_no_y hb w1 (br_f (by decide) (fy_tu W P2 l2 ha hb (fun g FR' G FF H => ?_) (fun g FR' G H => ?_)))))
        · have E : ∀ p, p < cnt → g p = c1 p := fun p hp => fu_Lc_u G Lx hp
          refine br_f (by decide) ⟨cnt + 1, fy_un32 (t1 := t1) (v1 := v1) W P2 l2 (fun p hp => (G.1 p hp).1) FF (fun p s hp ep S => ?_) (fun p f o hp ep hf S => ?_) (fun CL' TY' VL' IG' PE' PG => ?_) (cnt + 1) 0 IG (by omega) (by omega) (fun p hp => by omega)⟩
          · have ep1 : c1 p = p := (E p hp).symm.trans ep
            rw [fu_t_lo F.1 X E hp ep1 S, fu_gs F.1 F.2.1 (Wx.2.2.1 p hp ep1)]
          · exact fu_v_s W X ha' E hp ((E p hp).symm.trans ep) hf S
          · exact ⟨by rw [fu_ld_cg E], fu_Ri F l1 l2 Wx PX (fu_PC_g E PG) hq (fu_MS_6 M hq)⟩
        · have E : ∀ p, p < cnt → g p = c1 p := fun p hp => fu_Lc_u G Lx hp
          obtain ⟨p, hp, S⟩ := H
          exact absurd rfl (fu_t_nz F.1 X E hp S)
theorem i_vc_unifiable {k : Nat} {u : SX} {v : SY} (I : i_Rel k u v) (hk : k + 4 ≤ 2048) (v1 : Int32) (v2 : Int32) : wpX_unifiable (fun r u' => wpY_unifiable (fun r' v' => r' = r ∧ i_Rel (k + 4) u' v') v v1 v2) u v1 v2 := by
  have J := i_up I
  obtain ⟨nC, mC, pC, LT, TL, CA, TA, VA, SN, SC, ST, SV, PL, PR, IM⟩ := u
  obtain ⟨cn, mk, BE, CL, TY, VL, FR, IG, PE, KE⟩ := v
  obtain ⟨lo, q, cnt, c, t, w, F, l1, l2, W, rfl, rfl, P1, P2, hq, rfl, rfl, M⟩ := I
  have w1 := W.1
  have A : ∀ x y : Int32, (x < 0 ∨ nI cnt ≤ x) → wpX_unifiable (fun r u' => wpY_unifiable (fun r' v' => r' = r ∧ i_Rel (k + 4) u' v') ((nI cnt), (nI q), BE, CL, TY, VL, FR, IG, PE, KE) x y) ((nI cnt), (nI q), pC, LT, TL, CA, TA, VA, SN, SC, ST, SV, PL, PR, IM) x y := by
    intro x y h
    unfold wpX_unifiable
    refine fx_no_n h (br_t rfl ?_)
    unfold wpY_unifiable
    exact fy_no_n h (br_t rfl ⟨rfl, J⟩)
  rcases pk_ix v1 (n := cnt) (by omega) with h | h | ⟨a, ha, rfl⟩
  · exact A v1 v2 (Or.inl h)
  · exact A v1 v2 (Or.inr h)
  · have B : ∀ x : Int32, (x < 0 ∨ nI cnt ≤ x) → wpX_unifiable (fun r u' => wpY_unifiable (fun r' v' => r' = r ∧ i_Rel (k + 4) u' v') ((nI cnt), (nI q), BE, CL, TY, VL, FR, IG, PE, KE) (nI a) x) ((nI cnt), (nI q), pC, LT, TL, CA, TA, VA, SN, SC, ST, SV, PL, PR, IM) (nI a) x := by
      intro x h
      unfold wpX_unifiable
      refine fx_no_y ha w1 (br_f (by decide) (fx_no_n h (br_t rfl ?_)))
      unfold wpY_unifiable
      exact fy_no_y ha w1 (br_f (by decide) (fy_no_n h (br_t rfl ⟨rfl, J⟩)))
    rcases pk_ix v2 (n := cnt) (by omega) with h | h | ⟨b, hb, rfl⟩
    · exact B v2 (Or.inl h)
    · exact B v2 (Or.inr h)
    · have R : ∀ CA' TA' VA' : Nat → Int32, fu_PC cnt c t w (fu_ri (fu_ci CA (6 * 16) 0 16 SC) (6 * 16) 0 16 CA') (fu_ri (fu_ci TA (6 * 16) 0 16 ST) (6 * 16) 0 16 TA') (fu_ri (fu_ci VA (6 * 48) 0 48 SV) (6 * 48) 0 48 VA') := fun CA' TA' VA' =>
        fu_PC_cg w1 P1 (fun j hj => by rw [fu_ri_in hj, fu_ci_in hj]) (fun j hj => by rw [fu_ri_in hj, fu_ci_in hj]) (fun j hj => by rw [fu_ri_in hj, fu_ci_in hj])
      unfold wpX_unifiable
      refine fx_no_y ha w1 (br_f (by decide) (fx_no_y hb w1 (br_f (by decide) (fx_sv (s := 6) (by omega) ?_))))
      refine fx_mo W F l1 ha hb P1 (fun bad pC' CA' TA' VA' PL' PR' => ?_) (fun c1 t1 v1 L R2 a' pc X ha' pC' CA' TA' VA' PL' PR' PX => ?_)
      · refine fx_rs (s := 6) (by omega) ⟨rfl, ?_⟩
        rw [pk_us]
        unfold wpY_unifiable
        refine fy_no_y ha w1 (br_f (by decide) (fy_no_y hb w1 (br_f (by decide) (fy_tu W P2 l2 ha hb (fun g FR' G FF H => ?_) (fun g FR' G H => ?_)))))
        · obtain ⟨p, hp, z⟩ := fu_Bad_0 bad G
          obtain ⟨s, S, nz⟩ := H p hp
          exact absurd (z s S) nz
        · exact br_t rfl ⟨rfl, fu_Ri F l1 l2 W (R CA' TA' VA') P2 hq (fu_MS_6 M hq)⟩
      · obtain ⟨Lx, Wx⟩ := fu_Xe W X ha'
        refine fx_rs (s := 6) (by omega) ⟨rfl, ?_⟩
        rw [pk_us]
        unfold wpY_unifiable
        refine fy_no_y ha w1 (br_f (by decide) (fy_no_y hb w1 (br_f (by decide) (fy_tu W P2 l2 ha hb (fun g FR' G FF H => ?_) (fun g FR' G H => ?_)))))
        · exact br_f (by decide) ⟨rfl, fu_Ri F l1 l2 W (R CA' TA' VA') P2 hq (fu_MS_6 M hq)⟩
        · have E : ∀ p, p < cnt → g p = c1 p := fun p hp => fu_Lc_u G Lx hp
          obtain ⟨p, hp, S⟩ := H
          exact absurd rfl (fu_t_nz F.1 X E hp S)
end
section
/-! the rest -/
theorem i_vc_arc {k : Nat} {u : SX} {v : SY} (I : i_Rel k u v) (hk : k + 4 ≤ 2048) (v1 : Int32) (v2 : Int32) (v3 : Int32) : wpX_arc (fun r u' => wpY_arc (fun r' v' => r' = r ∧ i_Rel (k + 4) u' v') v v1 v2 v3) u v1 v2 v3 := by
  have J := i_up I
  obtain ⟨nC, mC, pC, LT, TL, CA, TA, VA, SN, SC, ST, SV, PL, PR, IM⟩ := u
  obtain ⟨cn, mk, BE, CL, TY, VL, FR, IG, PE, KE⟩ := v
  obtain ⟨lo, q, cnt, c, t, w, F, l1, l2, W, rfl, rfl, P1, P2, hq, rfl, rfl, M⟩ := I
  have w1 := W.1
  have A : ∀ x y z : Int32, (x < 0 ∨ nI cnt ≤ x) → wpX_arc (fun r u' => wpY_arc (fun r' v' => r' = r ∧ i_Rel (k + 4) u' v') ((nI cnt), (nI q), BE, CL, TY, VL, FR, IG, PE, KE) x y z) ((nI cnt), (nI q), pC, LT, TL, CA, TA, VA, SN, SC, ST, SV, PL, PR, IM) x y z := by
    intro x y z h
    unfold wpX_arc
    refine fx_no_n h (br_t rfl ?_)
    unfold wpY_arc
    exact fy_no_n h (br_t rfl ⟨rfl, J⟩)
  rcases pk_ix v1 (n := cnt) (by omega) with h | h | ⟨a, ha, rfl⟩
  · exact A v1 v2 v3 (Or.inl h)
  · exact A v1 v2 v3 (Or.inr h)
  · have B : ∀ y x : Int32, (x < 0 ∨ nI cnt ≤ x) → wpX_arc (fun r u' => wpY_arc (fun r' v' => r' = r ∧ i_Rel (k + 4) u' v') ((nI cnt), (nI q), BE, CL, TY, VL, FR, IG, PE, KE) (nI a) y x) ((nI cnt), (nI q), pC, LT, TL, CA, TA, VA, SN, SC, ST, SV, PL, PR, IM) (nI a) y x := by
      intro y x h
      unfold wpX_arc
      refine fx_no_y ha w1 (br_f (by decide) (fx_no_n h (br_t rfl ?_)))
      unfold wpY_arc
      exact fy_no_y ha w1 (br_f (by decide) (fy_no_n h (br_t rfl ⟨rfl, J⟩)))
    rcases pk_ix v3 (n := cnt) (by omega) with h | h | ⟨b, hb, rfl⟩
    · exact B v2 v3 (Or.inl h)
    · exact B v2 v3 (Or.inr h)
    · have wa := W.2.1 a ha
      have wb := W.2.1 b hb
      rcases pk_ix v2 (n := 3) (by decide) with h | h | ⟨f, hf, rfl⟩
      · unfold wpX_arc
        refine fx_no_y ha w1 (br_f (by decide) (fx_no_y hb w1 (br_f (by decide) (fx_fe_n (Or.inl h) (br_t rfl ?_)))))
        unfold wpY_arc
        exact fy_no_y ha w1 (br_f (by decide) (fy_no_y hb w1 (br_f (by decide) (br_t h ⟨rfl, J⟩))))
      · unfold wpX_arc
        refine fx_no_y ha w1 (br_f (by decide) (fx_no_y hb w1 (br_f (by decide) (fx_fe_n (Or.inr h) (br_t rfl ?_)))))
        unfold wpY_arc
        refine fy_no_y ha w1 (br_f (by decide) (fy_no_y hb w1 (br_f (by decide) (br_c (fun _ => ⟨rfl, J⟩) (fun h0 => ?_)))))
        obtain ⟨j, hj, rfl⟩ := nI_of h0
        rw [nI_leI (by omega) hj] at h
        exact br_f (nI_ge (a := 2) (b := j) (by omega) hj) ⟨rfl, J⟩
      · unfold wpX_arc
        refine fx_no_y ha w1 (br_f (by decide) (fx_no_y hb w1 (br_f (by decide) (fx_fe_y hf (br_f (by decide) ⟨vp_in_nI (by omega) (by decide), ?_⟩)))))
        rw [nI_clamp (show a < 2 ^ 31 by omega), nI_clamp (show b < 2 ^ 31 by omega), P1.1 a ha, P1.1 b hb]
        refine nm_r (fu_a1 (c a) f) ⟨vp_in_nI (by omega) (by decide), ?_⟩
        rw [nI_clamp (show 3 * c a + f < 2 ^ 31 by omega), P1.2.2 (c a) f (by omega) wa.2 hf]
        cases x : w (c a) f with
        | none =>
          refine br_t rfl ⟨vp_in_nI (by omega) (by decide), vp_in_nI (by omega) (by decide), nm_e ?_⟩
          unfold wpY_arc
          refine fy_no_y ha w1 (br_f (by decide) (fy_no_y hb w1 (br_f (by decide) (br_f (nI_pos (by omega)) (br_t (nI_le (b := 2) (by omega) (by decide)) ⟨vp_in_nI (by omega) (by decide), ?_⟩)))))
          rw [nI_clamp (show a < 2 ^ 31 by omega), nI_clamp (show b < 2 ^ 31 by omega), P2.1 a ha, P2.1 b hb, fu_a2 (c a) f]
          refine ⟨vp_in_nI (by omega) (by decide), ?_⟩
          rw [nI_clamp (show 3 * c a + f < 2 ^ 31 by omega), P2.2.2 (c a) f (by omega) wa.2 hf, x]
          exact br_t rfl ⟨vp_in_nI (by omega) (by decide), vp_in_nI (by omega) (by decide), vp_in_nI (by omega) (by decide), nm_e ⟨rfl, fu_Ri F l1 l2 (fu_ar_W W (x := c a) (g := f) (by omega) wb.2) (fu_ar_P P1 hf) (fu_ar_P P2 hf) hq M⟩⟩
        | some d =>
          have kd := W.2.2.2 (c a) f d (by omega) wa.2 hf x
          refine br_f (fu_ne (by omega)) ?_
          unfold wpY_arc
          refine fy_no_y ha w1 (br_f (by decide) (fy_no_y hb w1 (br_f (by decide) (br_f (nI_pos (by omega)) (br_t (nI_le (b := 2) (by omega) (by decide)) ⟨vp_in_nI (by omega) (by decide), ?_⟩)))))
          rw [nI_clamp (show a < 2 ^ 31 by omega), nI_clamp (show b < 2 ^ 31 by omega), P2.1 a ha, P2.1 b hb, fu_a2 (c a) f]
          refine ⟨vp_in_nI (by omega) (by decide), ?_⟩
          rw [nI_clamp (show 3 * c a + f < 2 ^ 31 by omega), P2.2.2 (c a) f (by omega) wa.2 hf, x]
          exact br_f (fu_ne (by omega)) ⟨rfl, J⟩
theorem i_vc_classOf {k : Nat} {u : SX} {v : SY} (I : i_Rel k u v) (hk : k + 4 ≤ 2048) (v1 : Int32) : wpX_classOf (fun r => wpY_classOf (fun r' => r' = r ∧ i_Rel (k + 4) u v) v v1) u v1 := by
  have J := i_up I
  obtain ⟨nC, mC, pC, LT, TL, CA, TA, VA, SN, SC, ST, SV, PL, PR, IM⟩ := u
  obtain ⟨cn, mk, BE, CL, TY, VL, FR, IG, PE, KE⟩ := v
  obtain ⟨lo, q, cnt, c, t, w, F, l1, l2, W, rfl, rfl, P1, P2, hq, rfl, rfl, M⟩ := I
  have w1 := W.1
  have A : ∀ x : Int32, (x < 0 ∨ nI cnt ≤ x) → wpX_classOf (fun r => wpY_classOf (fun r' => r' = r ∧ i_Rel (k + 4) ((nI cnt), (nI q), pC, LT, TL, CA, TA, VA, SN, SC, ST, SV, PL, PR, IM) ((nI cnt), (nI q), BE, CL, TY, VL, FR, IG, PE, KE)) ((nI cnt), (nI q), BE, CL, TY, VL, FR, IG, PE, KE) x) ((nI cnt), (nI q), pC, LT, TL, CA, TA, VA, SN, SC, ST, SV, PL, PR, IM) x := by
    intro x h
    unfold wpX_classOf
    refine fx_no_n h (br_t rfl ?_)
    unfold wpY_classOf
    exact fy_no_n h (br_t rfl ⟨rfl, J⟩)
  rcases pk_ix v1 (n := cnt) (by omega) with h | h | ⟨a, ha, rfl⟩
  · exact A v1 (Or.inl h)
  · exact A v1 (Or.inr h)
  · unfold wpX_classOf
    refine fx_no_y ha w1 (br_f (by decide) ⟨vp_in_nI (by omega) (by decide), ?_⟩)
    rw [nI_clamp (show a < 2 ^ 31 by omega), P1.1 a ha]
    unfold wpY_classOf
    refine fy_no_y ha w1 (br_f (by decide) ⟨vp_in_nI (by omega) (by decide), ?_⟩)
    rw [nI_clamp (show a < 2 ^ 31 by omega), P2.1 a ha]
    exact ⟨rfl, J⟩
theorem i_vc_typeOf {k : Nat} {u : SX} {v : SY} (I : i_Rel k u v) (hk : k + 4 ≤ 2048) (v1 : Int32) : wpX_typeOf (fun r => wpY_typeOf (fun r' => r' = r ∧ i_Rel (k + 4) u v) v v1) u v1 := by
  have J := i_up I
  obtain ⟨nC, mC, pC, LT, TL, CA, TA, VA, SN, SC, ST, SV, PL, PR, IM⟩ := u
  obtain ⟨cn, mk, BE, CL, TY, VL, FR, IG, PE, KE⟩ := v
  obtain ⟨lo, q, cnt, c, t, w, F, l1, l2, W, rfl, rfl, P1, P2, hq, rfl, rfl, M⟩ := I
  have w1 := W.1
  have A : ∀ x : Int32, (x < 0 ∨ nI cnt ≤ x) → wpX_typeOf (fun r => wpY_typeOf (fun r' => r' = r ∧ i_Rel (k + 4) ((nI cnt), (nI q), pC, LT, TL, CA, TA, VA, SN, SC, ST, SV, PL, PR, IM) ((nI cnt), (nI q), BE, CL, TY, VL, FR, IG, PE, KE)) ((nI cnt), (nI q), BE, CL, TY, VL, FR, IG, PE, KE) x) ((nI cnt), (nI q), pC, LT, TL, CA, TA, VA, SN, SC, ST, SV, PL, PR, IM) x := by
    intro x h
    unfold wpX_typeOf
    refine fx_no_n h (br_t rfl ?_)
    unfold wpY_typeOf
    exact fy_no_n h (br_t rfl ⟨rfl, J⟩)
  rcases pk_ix v1 (n := cnt) (by omega) with h | h | ⟨a, ha, rfl⟩
  · exact A v1 (Or.inl h)
  · exact A v1 (Or.inr h)
  · have wa := W.2.1 a ha
    unfold wpX_typeOf
    refine fx_no_y ha w1 (br_f (by decide) ⟨vp_in_nI (by omega) (by decide), ?_⟩)
    rw [nI_clamp (show a < 2 ^ 31 by omega), P1.1 a ha]
    refine ⟨vp_in_nI (by omega) (by decide), ?_⟩
    rw [nI_clamp (show c a < 2 ^ 31 by omega), P1.2.1 (c a) (by omega) wa.2]
    unfold wpY_typeOf
    refine fy_no_y ha w1 (br_f (by decide) ⟨vp_in_nI (by omega) (by decide), ?_⟩)
    rw [nI_clamp (show a < 2 ^ 31 by omega), P2.1 a ha]
    refine ⟨vp_in_nI (by omega) (by decide), ?_⟩
    rw [nI_clamp (show c a < 2 ^ 31 by omega), P2.2.1 (c a) (by omega) wa.2]
    exact ⟨rfl, J⟩
theorem i_vc_value {k : Nat} {u : SX} {v : SY} (I : i_Rel k u v) (hk : k + 4 ≤ 2048) (v1 : Int32) (v2 : Int32) : wpX_value (fun r => wpY_value (fun r' => r' = r ∧ i_Rel (k + 4) u v) v v1 v2) u v1 v2 := by
  have J := i_up I
  obtain ⟨nC, mC, pC, LT, TL, CA, TA, VA, SN, SC, ST, SV, PL, PR, IM⟩ := u
  obtain ⟨cn, mk, BE, CL, TY, VL, FR, IG, PE, KE⟩ := v
  obtain ⟨lo, q, cnt, c, t, w, F, l1, l2, W, rfl, rfl, P1, P2, hq, rfl, rfl, M⟩ := I
  have w1 := W.1
  have A : ∀ x y : Int32, (x < 0 ∨ nI cnt ≤ x) → wpX_value (fun r => wpY_value (fun r' => r' = r ∧ i_Rel (k + 4) ((nI cnt), (nI q), pC, LT, TL, CA, TA, VA, SN, SC, ST, SV, PL, PR, IM) ((nI cnt), (nI q), BE, CL, TY, VL, FR, IG, PE, KE)) ((nI cnt), (nI q), BE, CL, TY, VL, FR, IG, PE, KE) x y) ((nI cnt), (nI q), pC, LT, TL, CA, TA, VA, SN, SC, ST, SV, PL, PR, IM) x y := by
    intro x y h
    unfold wpX_value
    refine fx_no_n h (br_t rfl ?_)
    unfold wpY_value
    exact fy_no_n h (br_t rfl ⟨rfl, J⟩)
  rcases pk_ix v1 (n := cnt) (by omega) with h | h | ⟨a, ha, rfl⟩
  · exact A v1 v2 (Or.inl h)
  · exact A v1 v2 (Or.inr h)
  · have wa := W.2.1 a ha
    rcases pk_ix v2 (n := 3) (by decide) with h | h | ⟨f, hf, rfl⟩
    · unfold wpX_value
      refine fx_no_y ha w1 (br_f (by decide) (fx_fe_n (Or.inl h) (br_t rfl ?_)))
      unfold wpY_value
      exact fy_no_y ha w1 (br_f (by decide) (br_t h ⟨rfl, J⟩))
    · unfold wpX_value
      refine fx_no_y ha w1 (br_f (by decide) (fx_fe_n (Or.inr h) (br_t rfl ?_)))
      unfold wpY_value
      refine fy_no_y ha w1 (br_f (by decide) (br_c (fun _ => ⟨rfl, J⟩) (fun h0 => ?_)))
      obtain ⟨j, hj, rfl⟩ := nI_of h0
      rw [nI_leI (by omega) hj] at h
      exact br_t (nI_lt (a := 2) (by omega) hj) ⟨rfl, J⟩
    · unfold wpX_value
      refine fx_no_y ha w1 (br_f (by decide) (fx_fe_y hf (br_f (by decide) ⟨vp_in_nI (by omega) (by decide), ?_⟩)))
      rw [nI_clamp (show a < 2 ^ 31 by omega), P1.1 a ha, fu_a1 (c a) f]
      refine ⟨vp_in_nI (by omega) (by decide), ?_⟩
      rw [nI_clamp (show 3 * c a + f < 2 ^ 31 by omega), P1.2.2 (c a) f (by omega) wa.2 hf]
      unfold wpY_value
      refine fy_no_y ha w1 (br_f (by decide) (br_f (nI_pos (by omega)) (br_f (nI_nlt (a := 2) (b := f) (by omega) (by decide)) ⟨vp_in_nI (by omega) (by decide), ?_⟩)))
      rw [nI_clamp (show a < 2 ^ 31 by omega), P2.1 a ha, fu_a2 (c a) f]
      refine ⟨vp_in_nI (by omega) (by decide), ?_⟩
      rw [nI_clamp (show 3 * c a + f < 2 ^ 31 by omega), P2.2.2 (c a) f (by omega) wa.2 hf]
      exact ⟨rfl, J⟩
theorem i_vc_classes {k : Nat} {u : SX} {v : SY} (I : i_Rel k u v) (hk : k + 4 ≤ 2048) : wpX_classes (fun r => wpY_classes (fun r' => r' = r ∧ i_Rel (k + 4) u v) v) u := by
  have J := i_up I
  obtain ⟨nC, mC, pC, LT, TL, CA, TA, VA, SN, SC, ST, SV, PL, PR, IM⟩ := u
  obtain ⟨cn, mk, BE, CL, TY, VL, FR, IG, PE, KE⟩ := v
  obtain ⟨lo, q, cnt, c, t, w, F, l1, l2, W, rfl, rfl, P1, P2, hq, rfl, rfl, M⟩ := I
  unfold wpX_classes
  exact fx_cc W.1 (fun p hp => (W.2.1 p hp).1) P1.1 (fy_cl W.1 (fun p hp => (W.2.1 p hp).1) P2.1 ⟨rfl, J⟩)
theorem i_vc_reach {k : Nat} {u : SX} {v : SY} (I : i_Rel k u v) (hk : k + 4 ≤ 2048) (v1 : Int32) : wpX_reach (fun r => wpY_reach (fun r' => r' = r ∧ i_Rel (k + 4) u v) v v1) u v1 := by
  have J := i_up I
  obtain ⟨nC, mC, pC, LT, TL, CA, TA, VA, SN, SC, ST, SV, PL, PR, IM⟩ := u
  obtain ⟨cn, mk, BE, CL, TY, VL, FR, IG, PE, KE⟩ := v
  obtain ⟨lo, q, cnt, c, t, w, F, l1, l2, W, rfl, rfl, P1, P2, hq, rfl, rfl, M⟩ := I
  have w1 := W.1
  have A : ∀ x : Int32, (x < 0 ∨ nI cnt ≤ x) → wpX_reach (fun r => wpY_reach (fun r' => r' = r ∧ i_Rel (k + 4) ((nI cnt), (nI q), pC, LT, TL, CA, TA, VA, SN, SC, ST, SV, PL, PR, IM) ((nI cnt), (nI q), BE, CL, TY, VL, FR, IG, PE, KE)) ((nI cnt), (nI q), BE, CL, TY, VL, FR, IG, PE, KE) x) ((nI cnt), (nI q), pC, LT, TL, CA, TA, VA, SN, SC, ST, SV, PL, PR, IM) x := by
    intro x h
    unfold wpX_reach
    refine fx_no_n h (br_t rfl ?_)
    unfold wpY_reach
    exact fy_no_n h (br_t rfl ⟨rfl, J⟩)
  rcases pk_ix v1 (n := cnt) (by omega) with h | h | ⟨a, ha, rfl⟩
  · exact A v1 (Or.inl h)
  · exact A v1 (Or.inr h)
  · exact fx_re W P1 ha (fun s S D => fy_re W P2 ha (fun s' S' D' => ⟨by rw [fu_Rs_eq S S' D D'], J⟩))
theorem i_vc_subsumes {k : Nat} {u : SX} {v : SY} (I : i_Rel k u v) (hk : k + 4 ≤ 2048) (v1 : Int32) (v2 : Int32) : wpX_subsumes (fun r u' => wpY_subsumes (fun r' v' => r' = r ∧ i_Rel (k + 4) u' v') v v1 v2) u v1 v2 := by
  have J := i_up I
  obtain ⟨nC, mC, pC, LT, TL, CA, TA, VA, SN, SC, ST, SV, PL, PR, IM⟩ := u
  obtain ⟨cn, mk, BE, CL, TY, VL, FR, IG, PE, KE⟩ := v
  obtain ⟨lo, q, cnt, c, t, w, F, l1, l2, W, rfl, rfl, P1, P2, hq, rfl, rfl, M⟩ := I
  have w1 := W.1
  have A : ∀ x y : Int32, (x < 0 ∨ nI cnt ≤ x) → wpX_subsumes (fun r u' => wpY_subsumes (fun r' v' => r' = r ∧ i_Rel (k + 4) u' v') ((nI cnt), (nI q), BE, CL, TY, VL, FR, IG, PE, KE) x y) ((nI cnt), (nI q), pC, LT, TL, CA, TA, VA, SN, SC, ST, SV, PL, PR, IM) x y := by
    intro x y h
    unfold wpX_subsumes
    refine fx_no_n h (br_t rfl ?_)
    unfold wpY_subsumes
    exact fy_no_n h (br_t rfl ⟨rfl, J⟩)
  rcases pk_ix v1 (n := cnt) (by omega) with h | h | ⟨a, ha, rfl⟩
  · exact A v1 v2 (Or.inl h)
  · exact A v1 v2 (Or.inr h)
  · have B : ∀ x : Int32, (x < 0 ∨ nI cnt ≤ x) → wpX_subsumes (fun r u' => wpY_subsumes (fun r' v' => r' = r ∧ i_Rel (k + 4) u' v') ((nI cnt), (nI q), BE, CL, TY, VL, FR, IG, PE, KE) (nI a) x) ((nI cnt), (nI q), pC, LT, TL, CA, TA, VA, SN, SC, ST, SV, PL, PR, IM) (nI a) x := by
      intro x h
      unfold wpX_subsumes
      refine fx_no_y ha w1 (br_f (by decide) (fx_no_n h (br_t rfl ?_)))
      unfold wpY_subsumes
      exact fy_no_y ha w1 (br_f (by decide) (fy_no_n h (br_t rfl ⟨rfl, J⟩)))
    rcases pk_ix v2 (n := cnt) (by omega) with h | h | ⟨b, hb, rfl⟩
    · exact B v2 (Or.inl h)
    · exact B v2 (Or.inr h)
    · have wa := W.2.1 a ha
      have wb := W.2.1 b hb
      have e := fu_it_16 (lo := lo) W (fu_i0_ok (x := c a) (y := c b) (by omega) wa.2 (by omega) wb.2) (p := c a) (h := c b) (if_pos rfl)
      exact fx_su W P1 l1 ha hb (fun IM' => fy_su W P2 l2 ha hb (fun IG' => ⟨by rw [e], fu_Ri F l1 l2 W P1 P2 hq M⟩))
theorem i_vc_mark {k : Nat} {u : SX} {v : SY} (I : i_Rel k u v) (hk : k + 4 ≤ 2048) : wpX_mark (fun r u' => wpY_mark (fun r' v' => r' = r ∧ i_Rel (k + 4) u' v') v) u := by
  have J := i_up I
  obtain ⟨nC, mC, pC, LT, TL, CA, TA, VA, SN, SC, ST, SV, PL, PR, IM⟩ := u
  obtain ⟨cn, mk, BE, CL, TY, VL, FR, IG, PE, KE⟩ := v
  obtain ⟨lo, q, cnt, c, t, w, F, l1, l2, W, rfl, rfl, P1, P2, hq, rfl, rfl, M⟩ := I
  by_cases h6 : q < 6
  · unfold wpX_mark
    refine br_t (nI_lt (b := 6) h6 (by decide)) (fx_sv (by omega) (nm_r (nI_1 q) ?_))
    exact fy_mk h6 (fun KE' h1 h2 h3 h4 h5 => ⟨rfl, fu_Ri F l1 l2 W P1 P2 (by omega) (fu_MS_s M W P1 P2 h1 h2 h3 h4 h5)⟩)
  · have e : q = 6 := by omega
    subst e
    unfold wpX_mark
    refine br_f (by decide) ?_
    unfold wpY_mark
    exact br_t (by decide) ⟨rfl, J⟩
theorem i_vc_back {k : Nat} {u : SX} {v : SY} (I : i_Rel k u v) (hk : k + 4 ≤ 2048) : wpX_back (fun r u' => wpY_back (fun r' v' => r' = r ∧ i_Rel (k + 4) u' v') v) u := by
  have J := i_up I
  obtain ⟨nC, mC, pC, LT, TL, CA, TA, VA, SN, SC, ST, SV, PL, PR, IM⟩ := u
  obtain ⟨cn, mk, BE, CL, TY, VL, FR, IG, PE, KE⟩ := v
  obtain ⟨lo, q, cnt, c, t, w, F, l1, l2, W, rfl, rfl, P1, P2, hq, rfl, rfl, M⟩ := I
  cases q with
  | zero =>
    unfold wpX_back
    refine br_f (by decide) ?_
    unfold wpY_back
    exact br_t (by decide) ⟨rfl, J⟩
  | succ s =>
    unfold wpX_back
    refine br_t (nI_lt (a := 0) (by omega) (by omega)) (nm_r (nI_pred s) (fx_rs (by omega) ?_))
    refine fy_ba (by omega) ⟨rfl, ?_⟩
    obtain ⟨cnt2, c2, t2, v2, W2, e1, e2, Q1, Q2⟩ := M s (by omega)
    rw [e1, e2]
    exact fu_Ri F l1 l2 W2 (fu_PC_cg W2.1 Q1 (fun j hj => fu_ri_in hj) (fun j hj => fu_ri_in hj) (fun j hj => fu_ri_in hj)) (fu_PC_cg W2.1 Q2 (fun j hj => fu_ri_in hj) (fun j hj => fu_ri_in hj) (fun j hj => fu_ri_in hj)) (by omega) (fu_MS_le M (by omega))
theorem i_vc_keep {k : Nat} {u : SX} {v : SY} (I : i_Rel k u v) (hk : k + 4 ≤ 2048) : wpX_keep (fun r u' => wpY_keep (fun r' v' => r' = r ∧ i_Rel (k + 4) u' v') v) u := by
  have J := i_up I
  obtain ⟨nC, mC, pC, LT, TL, CA, TA, VA, SN, SC, ST, SV, PL, PR, IM⟩ := u
  obtain ⟨cn, mk, BE, CL, TY, VL, FR, IG, PE, KE⟩ := v
  obtain ⟨lo, q, cnt, c, t, w, F, l1, l2, W, rfl, rfl, P1, P2, hq, rfl, rfl, M⟩ := I
  cases q with
  | zero =>
    unfold wpX_keep
    refine br_f (by decide) ?_
    unfold wpY_keep
    exact br_t (by decide) ⟨rfl, J⟩
  | succ s =>
    unfold wpX_keep
    refine br_t (nI_lt (a := 0) (by omega) (by omega)) (nm_r (nI_pred s) ?_)
    unfold wpY_keep
    exact br_f (nI_ne0 (by omega) (by omega)) (nm_r (nI_pred s) ⟨rfl, fu_Ri F l1 l2 W P1 P2 (by omega) (fu_MS_le M (by omega))⟩)
theorem i_vc_marks {k : Nat} {u : SX} {v : SY} (I : i_Rel k u v) (hk : k + 4 ≤ 2048) : wpX_marks (fun r => wpY_marks (fun r' => r' = r ∧ i_Rel (k + 4) u v) v) u := by
  have J := i_up I
  obtain ⟨nC, mC, pC, LT, TL, CA, TA, VA, SN, SC, ST, SV, PL, PR, IM⟩ := u
  obtain ⟨cn, mk, BE, CL, TY, VL, FR, IG, PE, KE⟩ := v
  obtain ⟨lo, q, cnt, c, t, w, F, l1, l2, W, rfl, rfl, P1, P2, hq, rfl, rfl, M⟩ := I
  unfold wpX_marks wpY_marks
  exact ⟨rfl, J⟩
theorem i_vc_clear {k : Nat} {u : SX} {v : SY} (I : i_Rel k u v) (hk : k + 4 ≤ 2048) : wpX_clear (fun u' => wpY_clear (fun v' => i_Rel (k + 4) u' v') v) u := by
  obtain ⟨nC, mC, pC, LT, TL, CA, TA, VA, SN, SC, ST, SV, PL, PR, IM⟩ := u
  obtain ⟨cn, mk, BE, CL, TY, VL, FR, IG, PE, KE⟩ := v
  obtain ⟨lo, q, cnt, c, t, w, F, l1, l2, W, rfl, rfl, P1, P2, hq, rfl, rfl, M⟩ := I
  unfold wpX_clear wpY_clear
  exact fu_Ri (cnt := 0) (q := 0) (c := c) (t := t) (w := w) F l1 l2 ⟨by omega, fun p hp => by omega, fun p hp => by omega, fun p f d hp => by omega⟩ ⟨fun p hp => by omega, fun p hp => by omega, fun p f hp => by omega⟩ ⟨fun p hp => by omega, fun p hp => by omega, fun p f hp => by omega⟩ (by omega) (fun s hs => by omega)
end
