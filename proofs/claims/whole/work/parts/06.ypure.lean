/-! Y: rounds -/
def fu_Y (cnt : Nat) (c : Nat → Nat) (v : Nat → Nat → Option Nat) (n m : Nat) (g : Nat → Nat) : Prop :=
  (∀ p, p < cnt → g p ≤ p ∧ g (g p) = g p) ∧ (∀ p, p < cnt → g (c p) = g p) ∧ ∀ h, fu_Cg cnt c v n m h → ∀ p, p < cnt → h (g p) = h p
def fu_hi (x y : Nat) : Nat := if x < y then y else x
def fu_lw (x y : Nat) : Nat := if x < y then x else y
def fu_un (g : Nat → Nat) (x y : Nat) : Nat → Nat := fun p => fu_rn (fu_hi (g x) (g y)) (fu_lw (g x) (g y)) (g p)
theorem fu_hl (x y : Nat) : (x < y ∧ fu_lw x y = x ∧ fu_hi x y = y) ∨ (y < x ∧ fu_lw x y = y ∧ fu_hi x y = x) ∨ (x = y ∧ fu_lw x y = y ∧ fu_hi x y = x) := by
  unfold fu_hi fu_lw
  by_cases h : x < y
  · rw [if_pos h, if_pos h]
    exact Or.inl ⟨h, rfl, rfl⟩
  · rw [if_neg h, if_neg h]
    by_cases z : y < x
    · exact Or.inr (Or.inl ⟨z, rfl, rfl⟩)
    · exact Or.inr (Or.inr ⟨by omega, rfl, rfl⟩)
section
variable {cnt : Nat} {c t : Nat → Nat} {v : Nat → Nat → Option Nat} {lo : Nat → Int32} {n m : Nat}
theorem fu_Y0 (W : fu_WF cnt c t v) : fu_Y cnt c v n m c := ⟨W.2.1, fun p hp => (W.2.1 p hp).2, fun h H => H.1⟩
theorem fu_un_e {g : Nat → Nat} {x y : Nat} (e : g x = g y) (p : Nat) : fu_un g x y p = g p := by
  unfold fu_un
  rcases fu_hl (g x) (g y) with h | h | h
  · omega
  · omega
  · rw [h.2.1, h.2.2, e]
    by_cases z : g p = g y
    · rw [z, fu_rn_g]
    · rw [fu_rn_n z]
theorem fu_un_xy {g : Nat → Nat} {x y : Nat} : fu_un g x y x = fu_un g x y y := by
  unfold fu_un
  rcases fu_hl (g x) (g y) with h | h | h
  · rw [h.2.1, h.2.2, fu_rn_g, fu_rn_n (by omega)]
  · rw [h.2.1, h.2.2, fu_rn_g, fu_rn_n (by omega)]
  · rw [h.1]
theorem fu_Y_un {g : Nat → Nat} {x y : Nat} (I : fu_Y cnt c v n m g) (hx : x < cnt) (hy : y < cnt) (s : ∀ h, fu_Cg cnt c v n m h → h x = h y) : fu_Y cnt c v n m (fu_un g x y) ∧ (g x ≠ g y → fu_ld (fu_un g x y) cnt < fu_ld g cnt) := by
  obtain ⟨i1, i2, i3⟩ := I
  have bx := i1 x hx
  have by' := i1 y hy
  have core : ∀ k h, k < h → h < cnt → g k = k → g h = h → (∀ u, fu_Cg cnt c v n m u → u h = u k) → fu_Y cnt c v n m (fun p => fu_rn h k (g p)) ∧ fu_ld (fun p => fu_rn h k (g p)) cnt < fu_ld g cnt := by
    intro k h hk hh ek eh s2
    refine ⟨⟨fun p hp => ?_, fun p hp => ?_, fun u H p hp => ?_⟩, fu_ld_rn hh eh ek (by omega)⟩
    · have h1 := i1 p hp
      show fu_rn h k (g p) ≤ p ∧ fu_rn h k (g (fu_rn h k (g p))) = fu_rn h k (g p)
      by_cases z : g p = h
      · rw [z, fu_rn_g, ek, fu_rn_n (by omega)]
        exact ⟨by omega, rfl⟩
      · rw [fu_rn_n z, h1.2, fu_rn_n z]
        exact ⟨h1.1, rfl⟩
    · show fu_rn h k (g (c p)) = fu_rn h k (g p)
      rw [i2 p hp]
    · show u (fu_rn h k (g p)) = u p
      rw [fu_rn_h (s2 u H), i3 u H p hp]
  have sg : ∀ u, fu_Cg cnt c v n m u → u (g x) = u (g y) := by
    intro u H
    rw [i3 u H x hx, i3 u H y hy, s u H]
  unfold fu_un
  rcases fu_hl (g x) (g y) with h | h | h
  · rw [h.2.1, h.2.2]
    have k := core (g x) (g y) h.1 (by omega) bx.2 by'.2 (fun u H => (sg u H).symm)
    exact ⟨k.1, fun _ => k.2⟩
  · rw [h.2.1, h.2.2]
    have k := core (g y) (g x) h.1 (by omega) by'.2 bx.2 sg
    exact ⟨k.1, fun _ => k.2⟩
  · have e : (fun p => fu_rn (fu_hi (g x) (g y)) (fu_lw (g x) (g y)) (g p)) = g := by
      funext p
      exact fu_un_e h.1 p
    rw [e]
    exact ⟨⟨i1, i2, i3⟩, fun z => absurd h.1 z⟩
theorem fu_Y_cg {g g2 : Nat → Nat} (I : fu_Y cnt c v n m g) (W : ∀ p, p < cnt → c p ≤ p) (h : ∀ p, p < cnt → g2 p = g p) : fu_Y cnt c v n m g2 := by
  obtain ⟨i1, i2, i3⟩ := I
  refine ⟨fun p hp => ?_, fun p hp => ?_, fun u H p hp => ?_⟩
  · have := i1 p hp
    rw [h p hp, h (g p) (by omega)]
    exact this
  · have := W p hp
    rw [h p hp, h (c p) (by omega)]
    exact i2 p hp
  · rw [h p hp]
    exact i3 u H p hp
/-- what one round of Y does to g0; D: the places that it has looked at -/
def fu_R (cnt : Nat) (c : Nat → Nat) (v : Nat → Nat → Option Nat) (n m : Nat) (g0 g : Nat → Nat) (b : Bool) (D : Nat → Nat → Nat → Prop) : Prop :=
  fu_Y cnt c v n m g ∧ (∀ p, p < cnt → g (g0 p) = g p) ∧ (b = true → fu_ld g cnt < fu_ld g0 cnt) ∧
  (b = false → (∀ p, p < cnt → g p = g0 p) ∧ ∀ p q f d e, D p q f → p < cnt → q < cnt → f < 3 → c p = p → c q = q → g0 p = g0 q → v p f = some d → v q f = some e → g0 d = g0 e)
theorem fu_R0 {g : Nat → Nat} (I : fu_Y cnt c v n m g) : fu_R cnt c v n m g g false (fun _ _ _ => False) :=
  ⟨I, fun p hp => (I.1 p hp).2, fun z => absurd z (by decide), fun _ => ⟨fun _ _ => rfl, fun _ _ _ _ _ z => z.elim⟩⟩
theorem fu_R_D {g0 g : Nat → Nat} {b : Bool} {D D2 : Nat → Nat → Nat → Prop} (I : fu_R cnt c v n m g0 g b D) (h : b = false → ∀ p q f, D2 p q f → p < cnt → q < cnt → f < 3 → c p = p → c q = q → g p = g q → ∀ d e, v p f = some d → v q f = some e → D p q f ∨ g d = g e) (W : fu_WF cnt c t v) : fu_R cnt c v n m g0 g b D2 := by
  refine ⟨I.1, I.2.1, I.2.2.1, fun hb => ⟨(I.2.2.2 hb).1, fun p q f d e hD hp hq hf ep eq epq hd he => ?_⟩⟩
  have k := I.2.2.2 hb
  have wd := W.2.2.2 p f d hp ep hf hd
  have we := W.2.2.2 q f e hq eq hf he
  rcases h hb p q f hD hp hq hf ep eq (by rw [k.1 p hp, k.1 q hq, epq]) d e hd he with x | x
  · exact k.2 p q f d e x hp hq hf ep eq epq hd he
  · rw [← k.1 d wd.1, ← k.1 e we.1, x]
theorem fu_ld_cg {g g2 : Nat → Nat} (h : ∀ p, p < cnt → g p = g2 p) : fu_ld g cnt = fu_ld g2 cnt :=
  fu_cd_cg cnt (fun p hp => by show decide (g p = p) = decide (g2 p = p); rw [h p hp])
theorem fu_R_le {g0 g : Nat → Nat} {b : Bool} {D : Nat → Nat → Nat → Prop} (I : fu_R cnt c v n m g0 g b D) : fu_ld g cnt ≤ fu_ld g0 cnt := by
  cases b with
  | true => exact Nat.le_of_lt (I.2.2.1 rfl)
  | false => exact Nat.le_of_eq (fu_ld_cg (I.2.2.2 rfl).1)
/-- one after the other -/
theorem fu_R_c {g0 g g' : Nat → Nat} {b b' : Bool} {D D' : Nat → Nat → Nat → Prop} (W : fu_WF cnt c t v) (I0 : fu_Y cnt c v n m g0) (I : fu_R cnt c v n m g0 g b D) (J : fu_R cnt c v n m g g' b' D') : fu_R cnt c v n m g0 g' (b || b') (fun p q f => D p q f ∨ D' p q f) := by
  refine ⟨J.1, fun p hp => ?_, fun hb => ?_, fun hb => ?_⟩
  · have h0 := (I0.1 p hp).1
    rw [← J.2.1 (g0 p) (by omega), I.2.1 p hp, J.2.1 p hp]
  · have h1 := fu_R_le I
    have h2 := fu_R_le J
    rw [Bool.or_eq_true] at hb
    rcases hb with hb | hb
    · have := I.2.2.1 hb
      omega
    · have := J.2.2.1 hb
      omega
  · rw [Bool.or_eq_false_iff] at hb
    have k1 := I.2.2.2 hb.1
    have k2 := J.2.2.2 hb.2
    refine ⟨fun p hp => by rw [k2.1 p hp, k1.1 p hp], fun p q f d e hD hp hq hf ep eq epq hd he => ?_⟩
    rcases hD with hD | hD
    · exact k1.2 p q f d e hD hp hq hf ep eq epq hd he
    · have wd := W.2.2.2 p f d hp ep hf hd
      have we := W.2.2.2 q f e hq eq hf he
      have := k2.2 p q f d e hD hp hq hf ep eq (by rw [k1.1 p hp, k1.1 q hq, epq]) hd he
      rw [k1.1 d wd.1, k1.1 e we.1] at this
      exact this
/-- a forced merge -/
theorem fu_R_u {g : Nat → Nat} {x y : Nat} {D : Nat → Nat → Nat → Prop} (I : fu_Y cnt c v n m g) (hx : x < cnt) (hy : y < cnt) (s : ∀ h, fu_Cg cnt c v n m h → h x = h y)
    (hD : ∀ p q f d e, D p q f → v p f = some d → v q f = some e → d = x ∧ e = y) : fu_R cnt c v n m g (fu_un g x y) (!decide (g x = g y)) D := by
  have k := fu_Y_un I hx hy s
  refine ⟨k.1, fun p hp => ?_, fun hb => k.2 ?_, fun hb => ?_⟩
  · unfold fu_un
    rw [(I.1 p hp).2]
  · intro e
    rw [decide_eq_true e] at hb
    exact absurd hb (by decide)
  · have e : g x = g y := by
      refine Classical.byContradiction fun z => ?_
      rw [decide_eq_false z] at hb
      exact absurd hb (by decide)
    refine ⟨fun p hp => fu_un_e e p, fun p q f d e2 hd _ _ _ _ _ _ h1 h2 => ?_⟩
    have := hD p q f d e2 hd h1 h2
    rw [this.1, this.2, e]
theorem fu_Yf {g : Nat → Nat} (W : fu_WF cnt c t v) (I : fu_Y cnt c v n m g) (e : g n = g m)
    (D : ∀ p q f d e, q < p → p < cnt → f < 3 → c p = p → c q = q → g p = g q → v p f = some d → v q f = some e → g d = g e) : fu_Lc cnt c v n m g := by
  obtain ⟨i1, i2, i3⟩ := I
  refine ⟨i1, ⟨i2, e, fun p q f d e hp hq hf ep eq epq hd he => ?_⟩, i3⟩
  rcases Nat.lt_trichotomy p q with z | z | z
  · exact (D q p f e d z hq hf eq ep epq.symm he hd).symm
  · subst z
    rw [hd] at he
    cases he
    rfl
  · exact D p q f d e z hp hf ep eq epq hd he
theorem fu_Y0c (W : fu_WF cnt c t v) (p q f d e : Nat) (hq : q < p) (hp : p < cnt) (hf : f < 3) (ep : c p = p) (eq : c q = q) (h : c p = c q) (hd : v p f = some d) (he : v q f = some e) : c d = c e := by omega
/-! the lower types of a merged set -/
def fu_Lo (cnt : Nat) (c t : Nat → Nat) (lo : Nat → Int32) (g : Nat → Nat) (x : Nat) (s : Int32) : Prop :=
  ∀ i, bt s i = true ↔ i < 8 ∧ ∀ q, q < cnt → g q = x → bt (lo (t (c q))) i = true
theorem fu_Bad_0 {g : Nat → Nat} (B : fu_Bad cnt c t v lo n m) (G : fu_Lc cnt c v n m g) : ∃ p, p < cnt ∧ ∀ s, fu_Lo cnt c t lo g (g p) s → s = 0 := by
  obtain ⟨a, ha, H⟩ := B
  refine ⟨a, ha, fun s S => fu_nz.mpr fun i => ?_⟩
  obtain ⟨p, hp, e, hb⟩ := H g G.2.1 i
  cases z : bt s i with
  | false => rfl
  | true =>
    have := ((S i).mp z).2 p hp e
    rw [this] at hb
    exact absurd hb (by decide)
section
variable {c1 t1 : Nat → Nat} {v1 : Nat → Nat → Option Nat} {L R : Nat → Nat} {a pc : Nat} {g : Nat → Nat}
theorem fu_t_lo (P : fu_Pre lo) (I : fu_X cnt c t v lo n m c1 t1 v1 L R a pc) (E : ∀ p, p < cnt → g p = c1 p) {p : Nat} (hp : p < cnt) (ep : c1 p = p) {s : Int32} (S : fu_Lo cnt c t lo g p s) : s = lo (t1 p) := by
  have i8 := I.2.2.2.2.2.2.2.1 p hp ep
  refine b_ext fun i _ => ?_
  have k : bt s i = true ↔ bt (lo (t1 p)) i = true := by
    rw [S i, i8.2 i]
    refine ⟨fun h q hq eq => h.2 q hq ?_, fun h => ⟨P.1 _ i i8.1 ((i8.2 i).mpr h), fun q hq eq => h q hq ?_⟩⟩
    · rw [E q hq, eq]
    · rw [← E q hq, eq]
  cases x : bt s i with
  | true => exact (k.mp x).symm
  | false =>
    cases y : bt (lo (t1 p)) i with
    | true =>
      rw [k.mpr y] at x
      exact absurd x (by decide)
    | false => rfl
theorem fu_t_nz (P : fu_Pre lo) (I : fu_X cnt c t v lo n m c1 t1 v1 L R a pc) (E : ∀ p, p < cnt → g p = c1 p) {p : Nat} (hp : p < cnt) {s : Int32} (S : fu_Lo cnt c t lo g (g p) s) : s ≠ 0 := by
  have i1 := I.1 p hp
  rw [E p hp] at S
  have e := fu_t_lo P I E (by omega) i1.2 S
  have i8 := I.2.2.2.2.2.2.2.1 (c1 p) (by omega) i1.2
  intro z
  have := P.2.1 _ i8.1
  rw [← e, z, b_0] at this
  exact absurd this (by decide)
/-- what Y's search for a value finds -/
def fu_Vs (cnt : Nat) (c : Nat → Nat) (v : Nat → Nat → Option Nat) (g : Nat → Nat) (x f : Nat) (o : Option Nat) : Prop :=
  (o = none ∧ ∀ p, p < cnt → g p = x → v (c p) f = none) ∨ ∃ p e, p < cnt ∧ g p = x ∧ v (c p) f = some e ∧ o = some (g e)
theorem fu_v_s (W : fu_WF cnt c t v) (I : fu_X cnt c t v lo n m c1 t1 v1 L R a pc) (ha : pc ≤ a) (E : ∀ p, p < cnt → g p = c1 p) {p f : Nat} (hp : p < cnt) (ep : c1 p = p) (hf : f < 3) {o : Option Nat} (S : fu_Vs cnt c v g p f o) : o = v1 p f := by
  obtain ⟨w1, w2, w3, w4⟩ := W
  obtain ⟨i1, i2, i3, i4, i5, i6, i7, i8, i9⟩ := I
  have K : fu_Cp cnt c1 L R a pc c1 := ⟨fun q hq => (i1 q hq).2, fun i h1 h2 => by omega⟩
  rcases S with ⟨e, h⟩ | ⟨q, e, hq, eq, hv, eo⟩
  · rw [e]
    cases z : v1 p f with
    | none => rfl
    | some d =>
      obtain ⟨_, _, q, e2, hq, ec, e1, hv, _⟩ := i5 p f d hp ep hf z
      have := h q hq (by rw [E q hq, e1])
      rw [ec, hv] at this
      exact nomatch this
  · have wq := w2 q hq
    have hcq : c q < cnt := by omega
    obtain ⟨d, hd, hh⟩ := i6 (c q) f e hcq wq.2 hf hv
    rw [i2 q hq, ← E q hq, eq] at hd
    have k := w4 (c q) f e hcq wq.2 hf hv
    have k2 := i5 p f d hp ep hf hd
    rw [eo, hd, E e k.1, hh c1 K, k2.2.1]
end
end
