/-! the hierarchy: lo t holds the types under t -/
def fu_Pre (lo : Nat → Int32) : Prop :=
  (∀ t i, t < 8 → bt (lo t) i = true → i < 8) ∧ (∀ t, t < 8 → bt (lo t) t = true) ∧
  (∀ a b c, a < 8 → b < 8 → c < 8 → bt (lo b) a = true → bt (lo c) b = true → bt (lo c) a = true)
def fu_Ant (lo : Nat → Int32) : Prop := ∀ a b, a < 8 → b < 8 → bt (lo b) a = true → bt (lo a) b = true → a = b
def fu_Mee (lo : Nat → Int32) : Prop := ∀ a b, a < 8 → b < 8 → (∃ i, bt (lo a) i = true ∧ bt (lo b) i = true) → ∃ t, t < 8 ∧ lo t = lo a &&& lo b
def fu_Fit (lo : Nat → Int32) : Prop := fu_Pre lo ∧ fu_Ant lo ∧ fu_Mee lo
def fu_mt (lo : Nat → Int32) (a b : Nat) : Int32 := fu_sc (fun t => decide (lo t = lo a &&& lo b)) 8 0
def fu_gr (lo : Nat → Int32) (s : Int32) : Int32 := fu_sc (fun t => bt s t && decide (lo t &&& s = s)) 8 0
theorem fu_andc (x y : Int32) : x &&& y = y &&& x := b_ext fun i _ => by rw [b_and, b_and, Bool.and_comm]
theorem fu_ands (x : Int32) : x &&& x = x := b_ext fun i _ => by rw [b_and, Bool.and_self]
theorem fu_gm {lo : Nat → Int32} (P : fu_Pre lo) {a b : Nat} (ha : a < 8) (hb : b < 8) : fu_gr lo (lo a &&& lo b) = fu_mt lo a b := by
  refine fu_sc_cg 8 0 fun t _ ht => ?_
  have ht : t < 8 := by omega
  show (bt (lo a &&& lo b) t && decide (lo t &&& (lo a &&& lo b) = lo a &&& lo b)) = decide (lo t = lo a &&& lo b)
  by_cases z : lo t = lo a &&& lo b
  · rw [decide_eq_true z, ← z, fu_ands, P.2.1 t ht, decide_eq_true rfl]
    rfl
  · rw [decide_eq_false z]
    refine Bool.eq_false_iff.mpr fun h => z ?_
    rw [Bool.and_eq_true, decide_eq_true_iff] at h
    obtain ⟨h1, h2⟩ := h
    rw [b_and, Bool.and_eq_true] at h1
    refine b_ext fun i hi => ?_
    cases hb2 : bt (lo t) i with
    | true =>
      have i8 := P.1 t i ht hb2
      rw [b_and, P.2.2 i t a i8 ht ha hb2 h1.1, P.2.2 i t b i8 ht hb hb2 h1.2]
      rfl
    | false =>
      rw [← h2, b_and, hb2]
      rfl
theorem fu_gs {lo : Nat → Int32} (P : fu_Pre lo) (A : fu_Ant lo) {a : Nat} (ha : a < 8) : fu_gr lo (lo a) = nI a := by
  rcases fu_sc_sp (fun t => bt (lo a) t && decide (lo t &&& lo a = lo a)) 8 0 with ⟨_, h⟩ | ⟨j, _, hj, e, h⟩
  · have h1 := h a (by omega) (by omega)
    have h2 : (bt (lo a) a && decide (lo a &&& lo a = lo a)) = true := by rw [P.2.1 a ha, fu_ands, decide_eq_true rfl]; rfl
    rw [show (bt (lo a) a && decide (lo a &&& lo a = lo a)) = false from h1] at h2
    exact absurd h2 (by decide)
  · have h : (bt (lo a) j && decide (lo j &&& lo a = lo a)) = true := h
    rw [Bool.and_eq_true, decide_eq_true_iff] at h
    have h3 : bt (lo j) a = true := by
      have h4 := P.2.1 a ha
      rw [← h.2, b_and, Bool.and_eq_true] at h4
      exact h4.1
    have e2 : j = a := A j a (by omega) ha h.1 h3
    rw [← e2] at e ⊢
    exact e
theorem fu_mts (lo : Nat → Int32) (a b : Nat) : fu_mt lo a b = fu_mt lo b a := by
  unfold fu_mt
  rw [fu_andc]
theorem fu_mt_sp (lo : Nat → Int32) (a b : Nat) : (fu_mt lo a b = -4 ∧ ∀ t, t < 8 → lo t ≠ lo a &&& lo b) ∨ ∃ t, t < 8 ∧ fu_mt lo a b = nI t ∧ lo t = lo a &&& lo b := by
  rcases fu_sc_sp (fun t => decide (lo t = lo a &&& lo b)) 8 0 with ⟨e, h⟩ | ⟨j, _, hj, e, h⟩
  · exact Or.inl ⟨e, fun t ht => of_decide_eq_false (h t (by omega) (by omega))⟩
  · exact Or.inr ⟨j, by omega, e, of_decide_eq_true h⟩
/-! a new order -/
def fu_nw (lo : Nat → Int32) (a b : Nat) : Nat → Int32 := fun t => if bt (lo t) b = true then lo t ||| lo a else lo t
theorem fu_nw_b (lo : Nat → Int32) (a b t i : Nat) : bt (fu_nw lo a b t) i = true ↔ bt (lo t) i = true ∨ (bt (lo t) b = true ∧ bt (lo a) i = true) := by
  unfold fu_nw
  by_cases z : bt (lo t) b = true
  · rw [if_pos z, b_or, Bool.or_eq_true]
    exact ⟨fun h => h.elim Or.inl (fun y => Or.inr ⟨z, y⟩), fun h => h.elim Or.inl (fun y => Or.inr y.2)⟩
  · rw [if_neg z]
    exact ⟨Or.inl, fun h => h.elim id (fun y => absurd y.1 z)⟩
theorem fu_nw_pre {lo : Nat → Int32} (P : fu_Pre lo) {a b : Nat} (ha : a < 8) (hb : b < 8) : fu_Pre (fu_nw lo a b) := by
  refine ⟨fun t i ht h => ?_, fun t ht => ?_, fun x y z hx hy hz h1 h2 => ?_⟩
  · rw [fu_nw_b] at h
    exact h.elim (fun y => P.1 t i ht y) (fun y => P.1 a i ha y.2)
  · rw [fu_nw_b]
    exact Or.inl (P.2.1 t ht)
  · rw [fu_nw_b] at h1 h2 ⊢
    have T := P.2.2
    rcases h1 with h1 | ⟨h1, h1'⟩ <;> rcases h2 with h2 | ⟨h2, h2'⟩
    · exact Or.inl (T x y z hx hy hz h1 h2)
    · exact Or.inr ⟨h2, T x y a hx hy ha h1 h2'⟩
    · exact Or.inr ⟨T b y z hb hy hz h1 h2, h1'⟩
    · exact Or.inr ⟨h2, h1'⟩
theorem fu_nw_ant {lo : Nat → Int32} (P : fu_Pre lo) (A : fu_Ant lo) {a b : Nat} (ha : a < 8) (hb : b < 8) (h : a = b ∨ bt (lo a) b = false) : fu_Ant (fu_nw lo a b) := by
  have T := P.2.2
  have K : ∀ x y, x < 8 → y < 8 → bt (lo a) b = true → bt (lo y) b = true → bt (lo a) x = true → bt (lo y) x = true := by
    intro x y hx hy h1 h2 h3
    rcases h with h | h
    · rw [h] at h3
      exact T x b y hx hb hy h3 h2
    · rw [h] at h1
      exact absurd h1 (by decide)
  intro x y hx hy h1 h2
  rw [fu_nw_b] at h1 h2
  rcases h1 with h1 | ⟨h1, h1'⟩ <;> rcases h2 with h2 | ⟨h2, h2'⟩
  · exact A x y hx hy h1 h2
  · have h3 : bt (lo a) b = true := T b y a hb hy ha (T b x y hb hx hy h2 h1) h2'
    exact A x y hx hy h1 (K y x hy hx h3 h2 h2')
  · have h3 : bt (lo a) b = true := T b x a hb hx ha (T b y x hb hy hx h1 h2) h1'
    exact A x y hx hy (K x y hx hy h3 h1 h1') h2
  · have h3 : bt (lo a) b = true := T b x a hb hx ha h2 h1'
    exact A x y hx hy (K x y hx hy h3 h1 h1') (K y x hy hx h3 h2 h2')
def fu_okX (lo : Nat → Int32) : Prop := ∀ a b, a < 8 → b < a → lo a &&& lo b ≠ 0 → fu_mt lo a b ≠ -4
def fu_okY (lo : Nat → Int32) : Prop := ∀ a b, a < 8 → b < 8 → ¬ ((a ≠ b ∧ bt (lo a) b = true ∧ bt (lo b) a = true) ∨ (lo a &&& lo b ≠ 0 ∧ fu_gr lo (lo a &&& lo b) = -4))
theorem fu_okX_mee {lo : Nat → Int32} (h : fu_okX lo) : fu_Mee lo := by
  intro a b ha hb ⟨i, h1, h2⟩
  have nz : lo a &&& lo b ≠ 0 := by
    intro z
    have h3 : bt (lo a &&& lo b) i = true := by rw [b_and, h1, h2]; rfl
    rw [z, b_0] at h3
    exact absurd h3 (by decide)
  have key : fu_mt lo a b ≠ -4 ∨ a = b := by
    rcases Nat.lt_trichotomy a b with z | z | z
    · refine Or.inl ?_
      rw [fu_mts]
      rw [fu_andc] at nz
      exact h b a hb z nz
    · exact Or.inr z
    · exact Or.inl (h a b ha z nz)
  rcases key with k | k
  · rcases fu_mt_sp lo a b with ⟨e, _⟩ | ⟨t, ht, _, e⟩
    · exact absurd e k
    · exact ⟨t, ht, e⟩
  · subst k
    exact ⟨a, ha, (fu_ands _).symm⟩
theorem fu_ok {lo : Nat → Int32} (P : fu_Pre lo) (A : fu_Ant lo) : fu_okY lo ↔ fu_okX lo := by
  constructor
  · intro h a b ha hb nz e
    exact h a b ha (by omega) (Or.inr ⟨nz, (fu_gm P ha (by omega)).trans e⟩)
  · intro h a b ha hb z
    rcases z with ⟨n, h1, h2⟩ | ⟨nz, e⟩
    · exact n (A a b ha hb h2 h1)
    · obtain ⟨i, hi⟩ := fu_nz2 nz
      rw [b_and, Bool.and_eq_true] at hi
      obtain ⟨t, ht, e2⟩ := fu_okX_mee h a b ha hb ⟨i, hi.1, hi.2⟩
      rw [← e2, fu_gs P A ht] at e
      exact fu_ne (by omega) e
theorem fu_turn {lo : Nat → Int32} (P : fu_Pre lo) {a b : Nat} (ha : a < 8) (hb : b < 8) (n : a ≠ b) (h : bt (lo a) b = true) : ¬ fu_okY (fu_nw lo a b) := by
  intro k
  refine k a b ha hb (Or.inl ⟨n, ?_, ?_⟩)
  · rw [fu_nw_b]
    exact Or.inl h
  · rw [fu_nw_b]
    exact Or.inr ⟨P.2.1 b hb, P.2.1 a ha⟩
theorem fu_fit_cg {lo l2 : Nat → Int32} (h : ∀ t, t < 8 → l2 t = lo t) (F : fu_Fit lo) : fu_Fit l2 := by
  refine ⟨⟨fun t i ht => ?_, fun t ht => ?_, fun a b c ha hb hc => ?_⟩, fun a b ha hb => ?_, fun a b ha hb => ?_⟩
  · rw [h t ht]; exact F.1.1 t i ht
  · rw [h t ht]; exact F.1.2.1 t ht
  · rw [h b hb, h c hc]; exact F.1.2.2 a b c ha hb hc
  · rw [h a ha, h b hb]; exact F.2.1 a b ha hb
  · rw [h a ha, h b hb]
    intro k
    obtain ⟨t, ht, e⟩ := F.2.2 a b ha hb k
    exact ⟨t, ht, (h t ht).trans e⟩
/-- the first hierarchy -/
def fu_l0 : Nat → Int32 := fun t => if t = 0 then 255 else if t < 8 then (1 : Int32) <<< (nI t &&& 31) else 0
theorem fu_l0_b {t : Nat} (ht : t < 8) (i : Nat) : bt (fu_l0 t) i = true ↔ i < 8 ∧ (t = 0 ∨ i = t) := by
  unfold fu_l0
  by_cases z : t = 0
  · rw [if_pos z, b_255, decide_eq_true_iff]
    exact ⟨fun h => ⟨h, Or.inl z⟩, fun h => h.1⟩
  · rw [if_neg z, if_pos ht]
    constructor
    · intro h
      have h32 := fu_lt h
      rw [fu_one (by omega) h32, decide_eq_true_iff] at h
      exact ⟨by omega, Or.inr h⟩
    · intro h
      rw [fu_one (by omega) (by omega), decide_eq_true_iff]
      exact h.2.resolve_left z
theorem fu_l0_fit : fu_Fit fu_l0 := by
  refine ⟨⟨fun t i ht h => ?_, fun t ht => ?_, fun a b c ha hb hc h1 h2 => ?_⟩, fun a b ha hb h1 h2 => ?_, fun a b ha hb h => ?_⟩
  · exact ((fu_l0_b ht i).mp h).1
  · exact (fu_l0_b ht t).mpr ⟨ht, Or.inr rfl⟩
  · have k1 := (fu_l0_b hb a).mp h1
    have k2 := (fu_l0_b hc b).mp h2
    refine (fu_l0_b hc a).mpr ⟨ha, ?_⟩
    omega
  · have k1 := (fu_l0_b hb a).mp h1
    have k2 := (fu_l0_b ha b).mp h2
    omega
  · obtain ⟨i, h1, h2⟩ := h
    have k1 := (fu_l0_b ha i).mp h1
    have k2 := (fu_l0_b hb i).mp h2
    have key : ∀ x y, x < 8 → y < 8 → (y = 0 ∨ x = y) → fu_l0 x = fu_l0 x &&& fu_l0 y := by
      intro x y hx hy hxy
      refine b_ext fun j _ => ?_
      rw [b_and]
      cases hb2 : bt (fu_l0 x) j with
      | false => rfl
      | true =>
        have k3 := (fu_l0_b hx j).mp hb2
        have k4 : bt (fu_l0 y) j = true := (fu_l0_b hy j).mpr ⟨k3.1, by omega⟩
        rw [k4]
        rfl
    by_cases z : b = 0 ∨ a = b
    · exact ⟨a, ha, key a b ha hb z⟩
    · refine ⟨b, hb, ?_⟩
      rw [fu_andc]
      exact key b a hb ha (by omega)
