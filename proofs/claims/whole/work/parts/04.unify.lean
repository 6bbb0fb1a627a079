/-! pictures, congruences -/
def fu_WF (cnt : Nat) (c t : Nat → Nat) (v : Nat → Nat → Option Nat) : Prop :=
  cnt ≤ 16 ∧ (∀ p, p < cnt → c p ≤ p ∧ c (c p) = c p) ∧ (∀ p, p < cnt → c p = p → t p < 8) ∧
  (∀ p f d, p < cnt → c p = p → f < 3 → v p f = some d → d < cnt ∧ c d = d)
def fu_PC (cnt : Nat) (c t : Nat → Nat) (v : Nat → Nat → Option Nat) (A T V : Nat → Int32) : Prop :=
  (∀ p, p < cnt → A p = nI (c p)) ∧ (∀ p, p < cnt → c p = p → T p = nI (t p)) ∧
  (∀ p f, p < cnt → c p = p → f < 3 → V (3 * p + f) = fu_v (v p f))
def fu_Cg (cnt : Nat) (c : Nat → Nat) (v : Nat → Nat → Option Nat) (n m : Nat) (h : Nat → Nat) : Prop :=
  (∀ p, p < cnt → h (c p) = h p) ∧ h n = h m ∧
  (∀ p q f d e, p < cnt → q < cnt → f < 3 → c p = p → c q = q → h p = h q → v p f = some d → v q f = some e → h d = h e)
def fu_Lc (cnt : Nat) (c : Nat → Nat) (v : Nat → Nat → Option Nat) (n m : Nat) (g : Nat → Nat) : Prop :=
  (∀ p, p < cnt → g p ≤ p ∧ g (g p) = g p) ∧ fu_Cg cnt c v n m g ∧ ∀ h, fu_Cg cnt c v n m h → ∀ p, p < cnt → h (g p) = h p
theorem fu_Lc_u {cnt : Nat} {c : Nat → Nat} {v : Nat → Nat → Option Nat} {n m : Nat} {g1 g2 : Nat → Nat} (h1 : fu_Lc cnt c v n m g1) (h2 : fu_Lc cnt c v n m g2) {p : Nat} (hp : p < cnt) : g1 p = g2 p := by
  have a1 := (h1.1 p hp).1
  have a2 := (h2.1 p hp).1
  have b1 := h1.2.2 g2 h2.2.1 p hp
  have b2 := h2.2.2 g1 h1.2.1 p hp
  have c1 := (h2.1 (g1 p) (by omega)).1
  have c2 := (h1.1 (g2 p) (by omega)).1
  rw [b1] at c1
  rw [b2] at c2
  omega
def fu_rn (g k d : Nat) : Nat := if d = g then k else d
theorem fu_rn_g (g k : Nat) : fu_rn g k g = k := if_pos rfl
theorem fu_rn_n {g k d : Nat} (h : d ≠ g) : fu_rn g k d = d := if_neg h
theorem fu_rn_h {g k : Nat} {h : Nat → Nat} (e : h g = h k) (d : Nat) : h (fu_rn g k d) = h d := by
  by_cases z : d = g
  · rw [z, fu_rn_g, e]
  · rw [fu_rn_n z]
def fu_ld (g : Nat → Nat) (cnt : Nat) : Nat := fu_cd (fun p => decide (g p = p)) cnt
theorem fu_ld_1 {g : Nat → Nat} {cnt : Nat} (h : ∀ p, p < cnt → g p ≤ p ∧ g (g p) = g p) (h0 : 0 < cnt) : 1 ≤ fu_ld g cnt := by
  refine fu_cd_1 h0 (decide_eq_true ?_)
  have := (h 0 h0).1
  omega
theorem fu_ld_rn {c1 : Nat → Nat} {cnt g k : Nat} (hg : g < cnt) (eg : c1 g = g) (ek : c1 k = k) (hk : k ≠ g) : fu_ld (fun p => fu_rn g k (c1 p)) cnt < fu_ld c1 cnt := by
  refine fu_cd_lt cnt (fun i hi z => ?_) g hg (decide_eq_false ?_) (decide_eq_true eg)
  · have z : fu_rn g k (c1 i) = i := of_decide_eq_true z
    refine decide_eq_true ?_
    by_cases y : c1 i = g
    · rw [y, fu_rn_g] at z
      subst z
      rw [ek] at y
      exact absurd y hk
    · rw [fu_rn_n y] at z
      exact z
  · show ¬ fu_rn g k (c1 g) = g
    rw [eg, fu_rn_g]
    exact hk
/-! X: the work list -/
def fu_Cp (cnt : Nat) (c1 L R : Nat → Nat) (a pc : Nat) (h : Nat → Nat) : Prop :=
  (∀ q, q < cnt → h (c1 q) = h q) ∧ ∀ i, a ≤ i → i < pc → h (L i) = h (R i)
def fu_X (cnt : Nat) (c t : Nat → Nat) (v : Nat → Nat → Option Nat) (lo : Nat → Int32) (n m : Nat) (c1 t1 : Nat → Nat) (v1 : Nat → Nat → Option Nat) (L R : Nat → Nat) (a pc : Nat) : Prop :=
  (∀ p, p < cnt → c1 p ≤ p ∧ c1 (c1 p) = c1 p) ∧
  (∀ p, p < cnt → c1 (c p) = c1 p) ∧
  (∀ h, fu_Cg cnt c v n m h → ∀ p, p < cnt → h (c1 p) = h p) ∧
  (∀ i, i < pc → L i < cnt ∧ R i < cnt ∧ ∀ h, fu_Cg cnt c v n m h → h (L i) = h (R i)) ∧
  (∀ p f d, p < cnt → c1 p = p → f < 3 → v1 p f = some d → d < cnt ∧ c1 d = d ∧ ∃ q e, q < cnt ∧ c q = q ∧ c1 q = p ∧ v q f = some e ∧ c1 e = d) ∧
  (∀ p f e, p < cnt → c p = p → f < 3 → v p f = some e → ∃ d, v1 (c1 p) f = some d ∧ ∀ h, fu_Cp cnt c1 L R a pc h → h e = h d) ∧
  (∀ h, fu_Cp cnt c1 L R a pc h → h n = h m) ∧
  (∀ p, p < cnt → c1 p = p → t1 p < 8 ∧ ∀ i, bt (lo (t1 p)) i = true ↔ ∀ q, q < cnt → c1 q = p → bt (lo (t (c q))) i = true) ∧
  pc + 3 * fu_ld c1 cnt ≤ 3 * cnt + 1
section
variable {cnt : Nat} {c t : Nat → Nat} {v : Nat → Nat → Option Nat} {lo : Nat → Int32} {n m : Nat} {c1 t1 : Nat → Nat} {v1 : Nat → Nat → Option Nat} {L R : Nat → Nat} {a pc : Nat}
theorem fu_X0 (W : fu_WF cnt c t v) (hn : n < cnt) (hm : m < cnt) (hL : L 0 = n) (hR : R 0 = m) : fu_X cnt c t v lo n m c t v L R 0 1 := by
  obtain ⟨w1, w2, w3, w4⟩ := W
  refine ⟨w2, fun p hp => (w2 p hp).2, fun h H => H.1, fun i hi => ?_, fun p f d hp e hf hv => ?_, fun p f e hp ec hf hv => ?_, fun h H => ?_, fun p hp e => ?_, ?_⟩
  · have : i = 0 := by omega
    subst this
    rw [hL, hR]
    exact ⟨hn, hm, fun h H => H.2.1⟩
  · have k := w4 p f d hp e hf hv
    exact ⟨k.1, k.2, p, d, hp, e, e, hv, k.2⟩
  · rw [ec]
    exact ⟨e, hv, fun _ _ => rfl⟩
  · have := H.2 0 (by omega) (by omega)
    rw [hL, hR] at this
    exact this
  · refine ⟨w3 p hp e, fun i => ⟨fun h q hq eq => ?_, fun h => ?_⟩⟩
    · rw [eq]; exact h
    · have := h p hp e
      rw [e] at this
      exact this
  · have := fu_cd_le (fun p => decide (c p = p)) cnt
    unfold fu_ld
    omega
theorem fu_Xs (I : fu_X cnt c t v lo n m c1 t1 v1 L R a pc) (ha : a < pc) (e : c1 (L a) = c1 (R a)) : fu_X cnt c t v lo n m c1 t1 v1 L R (a + 1) pc := by
  obtain ⟨i1, i2, i3, i4, i5, i6, i7, i8, i9⟩ := I
  have K : ∀ h, fu_Cp cnt c1 L R (a + 1) pc h → fu_Cp cnt c1 L R a pc h := by
    intro h H
    refine ⟨H.1, fun i h1 h2 => ?_⟩
    by_cases z : i = a
    · subst z
      have k := i4 i h2
      rw [← H.1 _ k.1, ← H.1 _ k.2.1, e]
    · exact H.2 i (by omega) h2
  refine ⟨i1, i2, i3, i4, i5, fun p f e hp ec hf hv => ?_, fun h H => i7 h (K h H), i8, i9⟩
  obtain ⟨d, h1, h2⟩ := i6 p f e hp ec hf hv
  exact ⟨d, h1, fun h H => h2 h (K h H)⟩
theorem fu_Xe (W : fu_WF cnt c t v) (I : fu_X cnt c t v lo n m c1 t1 v1 L R a pc) (ha : pc ≤ a) : fu_Lc cnt c v n m c1 ∧ fu_WF cnt c1 t1 v1 := by
  obtain ⟨i1, i2, i3, i4, i5, i6, i7, i8, i9⟩ := I
  have K : fu_Cp cnt c1 L R a pc c1 := ⟨fun q hq => (i1 q hq).2, fun i h1 h2 => by omega⟩
  refine ⟨⟨i1, ⟨i2, i7 c1 K, fun p q f d e hp hq hf ep eq epq hd he => ?_⟩, i3⟩, W.1, i1, fun p hp e => (i8 p hp e).1, fun p f d hp e hf hv => ?_⟩
  · obtain ⟨d1, h1, h2⟩ := i6 p f d hp ep hf hd
    obtain ⟨d2, h3, h4⟩ := i6 q f e hq eq hf he
    rw [← epq, h1] at h3
    cases h3
    rw [h2 c1 K, h4 c1 K]
  · have k := i5 p f d hp e hf hv
    exact ⟨k.1, k.2.1⟩
def fu_Bad (cnt : Nat) (c t : Nat → Nat) (v : Nat → Nat → Option Nat) (lo : Nat → Int32) (n m : Nat) : Prop :=
  ∃ a, a < cnt ∧ ∀ h, fu_Cg cnt c v n m h → ∀ i, ∃ p, p < cnt ∧ h p = h a ∧ bt (lo (t (c p))) i = false
theorem fu_Xf (M : fu_Mee lo) (I : fu_X cnt c t v lo n m c1 t1 v1 L R a pc) (ha : a < pc) (e : fu_mt lo (t1 (c1 (L a))) (t1 (c1 (R a))) = -4) : fu_Bad cnt c t v lo n m := by
  obtain ⟨i1, i2, i3, i4, i5, i6, i7, i8, i9⟩ := I
  obtain ⟨hl, hr, hlr⟩ := i4 a ha
  have kl := i1 _ hl
  have kr := i1 _ hr
  have ll : c1 (L a) < cnt := by omega
  have lr : c1 (R a) < cnt := by omega
  have tl := i8 _ ll kl.2
  have tr := i8 _ lr kr.2
  refine ⟨c1 (L a), ll, fun h H i => ?_⟩
  have eh : h (c1 (L a)) = h (c1 (R a)) := by rw [i3 h H _ hl, i3 h H _ hr, hlr h H]
  have N : ∀ x, x < cnt → c1 x = x → (∀ j, bt (lo (t1 x)) j = true ↔ ∀ q, q < cnt → c1 q = x → bt (lo (t (c q))) j = true) → h x = h (c1 (L a)) → bt (lo (t1 x)) i = false → ∃ p, p < cnt ∧ h p = h (c1 (L a)) ∧ bt (lo (t (c p))) i = false := by
    intro x hx ex b ehx hb
    refine Classical.byContradiction fun z => ?_
    have : bt (lo (t1 x)) i = true := (b i).mpr fun q hq eq => by
      cases y : bt (lo (t (c q))) i with
      | true => rfl
      | false =>
        refine absurd ⟨q, hq, ?_, y⟩ z
        rw [← i3 h H q hq, eq, ehx]
    rw [this] at hb
    exact absurd hb (by decide)
  cases y : bt (lo (t1 (c1 (L a)))) i with
  | false => exact N _ ll kl.2 tl.2 rfl y
  | true =>
    cases x : bt (lo (t1 (c1 (R a)))) i with
    | false => exact N _ lr kr.2 tr.2 eh.symm x
    | true =>
      obtain ⟨s, hs, es⟩ := M _ _ tl.1 tr.1 ⟨i, y, x⟩
      rcases fu_mt_sp lo (t1 (c1 (L a))) (t1 (c1 (R a))) with ⟨_, k⟩ | ⟨s2, h2, e2, _⟩
      · exact absurd es (k s hs)
      · rw [e2] at e
        exact absurd e (fu_ne (by omega))
end
