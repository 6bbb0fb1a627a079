/-! X: one merge -/
def fu_JP (vg vk : Nat → Option Nat) (L R : Nat → Nat) (pc : Nat) (L2 R2 : Nat → Nat) (pc2 F : Nat) : Prop :=
  pc ≤ pc2 ∧ pc2 ≤ pc + F ∧ (∀ i, i < pc → L2 i = L i ∧ R2 i = R i) ∧
  (∀ i, pc ≤ i → i < pc2 → ∃ f d e, f < F ∧ vg f = some d ∧ vk f = some e ∧ L2 i = d ∧ R2 i = e) ∧
  (∀ f d e, f < F → vg f = some d → vk f = some e → d ≠ e → ∃ i, pc ≤ i ∧ i < pc2 ∧ L2 i = d ∧ R2 i = e)
def fu_rv (g k : Nat) (o : Option Nat) : Option Nat := match o with
  | none => none
  | some d => some (fu_rn g k d)
theorem fu_rv_s {g k : Nat} {o : Option Nat} {d : Nat} (h : fu_rv g k o = some d) : ∃ e, o = some e ∧ fu_rn g k e = d := by
  cases o with
  | none => exact nomatch h
  | some e => exact ⟨e, rfl, Option.some.inj h⟩
def fu_jv (vg vk : Option Nat) : Option Nat := match vk with
  | none => vg
  | some d => some d
def fu_v2 (v1 : Nat → Nat → Option Nat) (g k : Nat) : Nat → Nat → Option Nat := fun p f => if p = k then fu_jv (fu_rv g k (v1 g f)) (fu_rv g k (v1 k f)) else fu_rv g k (v1 p f)
section
variable {cnt : Nat} {c t : Nat → Nat} {v : Nat → Nat → Option Nat} {lo : Nat → Int32} {n m : Nat} {c1 t1 : Nat → Nat} {v1 : Nat → Nat → Option Nat} {L R : Nat → Nat} {a pc : Nat}
theorem fu_Xm {L2 R2 : Nat → Nat} {pc2 k g ty : Nat} (I : fu_X cnt c t v lo n m c1 t1 v1 L R a pc) (W : fu_WF cnt c t v) (ha : a < pc)
    (hkg : k < g) (hor : (c1 (L a) = k ∧ c1 (R a) = g) ∨ (c1 (L a) = g ∧ c1 (R a) = k)) (hty : ty < 8) (hl : lo ty = lo (t1 k) &&& lo (t1 g))
    (JP : fu_JP (fun f => fu_rv g k (v1 g f)) (fun f => fu_rv g k (v1 k f)) L R pc L2 R2 pc2 3) :
    fu_X cnt c t v lo n m (fun p => fu_rn g k (c1 p)) (fun p => if p = k then ty else t1 p) (fu_v2 v1 g k) L2 R2 (a + 1) pc2 := by
  obtain ⟨i1, i2, i3, i4, i5, i6, i7, i8, i9⟩ := I
  obtain ⟨w1, w2, w3, w4⟩ := W
  obtain ⟨j1, j2, j3, j4, j5⟩ := JP
  obtain ⟨hL, hR, hLR⟩ := i4 a ha
  have bL := i1 _ hL
  have bR := i1 _ hR
  have hk : k < cnt := by omega
  have hg : g < cnt := by omega
  have ek : c1 k = k := by
    rcases hor with ⟨x, y⟩ | ⟨x, y⟩
    · rw [x] at bL; exact bL.2
    · rw [y] at bR; exact bR.2
  have eg : c1 g = g := by
    rcases hor with ⟨x, y⟩ | ⟨x, y⟩
    · rw [y] at bR; exact bR.2
    · rw [x] at bL; exact bL.2
  have nkg : k ≠ g := by omega
  -- a congruence makes g and k one
  have hgk : ∀ h, fu_Cg cnt c v n m h → h g = h k := by
    intro h H
    have h1 := i3 h H _ hL
    have h2 := i3 h H _ hR
    have h3 := hLR h H
    rcases hor with ⟨x, y⟩ | ⟨x, y⟩
    · rw [x] at h1; rw [y] at h2; omega
    · rw [x] at h1; rw [y] at h2; omega
  have s3 : ∀ h, fu_Cg cnt c v n m h → ∀ p, p < cnt → h (fu_rn g k (c1 p)) = h p := by
    intro h H p hp
    rw [fu_rn_h (hgk h H), i3 h H p hp]
  -- what goes with the new goes with the old
  have K : ∀ h, fu_Cp cnt (fun p => fu_rn g k (c1 p)) L2 R2 (a + 1) pc2 h → h g = h k ∧ fu_Cp cnt c1 L R a pc h := by
    intro h H
    have e : h g = h k := by
      have this : h (fu_rn g k (c1 g)) = h g := H.1 g hg
      rw [eg, fu_rn_g] at this
      exact this.symm
    have H1 : ∀ q, q < cnt → h (c1 q) = h q := by
      intro q hq
      have this : h (fu_rn g k (c1 q)) = h q := H.1 q hq
      rw [fu_rn_h e] at this
      exact this
    refine ⟨e, H1, fun i h1 h2 => ?_⟩
    by_cases z : i = a
    · subst z
      rw [← H1 _ hL, ← H1 _ hR]
      rcases hor with ⟨x, y⟩ | ⟨x, y⟩
      · rw [x, y, e]
      · rw [x, y, e]
    · have h3 := H.2 i (by omega) (by omega)
      rw [(j3 i h2).1, (j3 i h2).2] at h3
      exact h3
  have cl : ∀ p, p < cnt → fu_rn g k (c1 p) = p → c1 p = p ∧ p ≠ g := by
    intro p hp h
    by_cases z : c1 p = g
    · rw [z, fu_rn_g] at h
      subst h
      rw [ek] at z
      exact absurd z nkg
    · rw [fu_rn_n z] at h
      refine ⟨h, fun y => z ?_⟩
      rw [h, y]
  -- a value of k or g, renamed, comes from an old value
  have F5 : ∀ p f d, p < cnt → c1 p = p → f < 3 → fu_rv g k (v1 p f) = some d → d < cnt ∧ fu_rn g k (c1 d) = d ∧ ∃ q e, q < cnt ∧ c q = q ∧ c1 q = p ∧ v q f = some e ∧ e < cnt ∧ fu_rn g k (c1 e) = d := by
    intro p f d hp ep hf h
    obtain ⟨d0, h0, e0⟩ := fu_rv_s h
    obtain ⟨x1, x2, q, e, x3, x4, x5, x6, x7⟩ := i5 p f d0 hp ep hf h0
    have x8 := w4 q f e x3 x4 hf x6
    by_cases z : d0 = g
    · rw [z, fu_rn_g] at e0
      subst e0
      refine ⟨hk, ?_, q, e, x3, x4, x5, x6, x8.1, ?_⟩
      · rw [ek, fu_rn_n nkg]
      · rw [x7, z, fu_rn_g]
    · rw [fu_rn_n z] at e0
      subst e0
      refine ⟨x1, ?_, q, e, x3, x4, x5, x6, x8.1, ?_⟩
      · rw [x2, fu_rn_n z]
      · rw [x7, fu_rn_n z]
  refine ⟨fun p hp => ?_, fun p hp => ?_, s3, fun i hi => ?_, fun p f d hp ep hf hv => ?_, fun p f e hp ec hf hv => ?_, fun h H => i7 h (K h H).2, fun p hp ep => ?_, ?_⟩
  · have h1 := i1 p hp
    by_cases z : c1 p = g
    · show fu_rn g k (c1 p) ≤ p ∧ fu_rn g k (c1 (fu_rn g k (c1 p))) = fu_rn g k (c1 p)
      rw [z, fu_rn_g, ek, fu_rn_n nkg]
      exact ⟨by omega, rfl⟩
    · show fu_rn g k (c1 p) ≤ p ∧ fu_rn g k (c1 (fu_rn g k (c1 p))) = fu_rn g k (c1 p)
      rw [fu_rn_n z, h1.2, fu_rn_n z]
      exact ⟨h1.1, rfl⟩
  · show fu_rn g k (c1 (c p)) = fu_rn g k (c1 p)
    rw [i2 p hp]
  · by_cases z : i < pc
    · rw [(j3 i z).1, (j3 i z).2]
      exact i4 i z
    · obtain ⟨f, d, e, hf, hd, he, el, er⟩ := j4 i (by omega) hi
      rw [el, er]
      obtain ⟨x1, _, q, d0, x3, x4, x5, x6, x7, x8⟩ := F5 g f d hg eg hf hd
      obtain ⟨y1, _, r, e0, y3, y4, y5, y6, y7, y8⟩ := F5 k f e hk ek hf he
      refine ⟨x1, y1, fun h H => ?_⟩
      rw [← x8, ← y8, s3 h H d0 x7, s3 h H e0 y7]
      refine H.2.2 q r f d0 e0 x3 y3 hf x4 y4 ?_ x6 y6
      have z1 := i3 h H q x3
      have z2 := i3 h H r y3
      rw [x5] at z1
      rw [y5] at z2
      rw [← z1, ← z2, hgk h H]
  · obtain ⟨ep1, npg⟩ := cl p hp ep
    unfold fu_v2 at hv
    by_cases z : p = k
    · subst z
      rw [if_pos rfl] at hv
      have key : ∃ x, x < cnt ∧ c1 x = x ∧ (x = p ∨ x = g) ∧ fu_rv g p (v1 x f) = some d := by
        cases y : fu_rv g p (v1 p f) with
        | none => rw [y] at hv; exact ⟨g, hg, eg, Or.inr rfl, hv⟩
        | some d2 => rw [y] at hv; exact ⟨p, hp, ep1, Or.inl rfl, by rw [y]; exact hv⟩
      obtain ⟨x, hx, ex, xo, hxv⟩ := key
      obtain ⟨x1, x2, q, e, x3, x4, x5, x6, x7, x8⟩ := F5 x f d hx ex hf hxv
      refine ⟨x1, x2, q, e, x3, x4, ?_, x6, x8⟩
      show fu_rn g p (c1 q) = p
      rw [x5]
      rcases xo with xo | xo
      · rw [xo, fu_rn_n nkg]
      · rw [xo, fu_rn_g]
    · rw [if_neg z] at hv
      obtain ⟨x1, x2, q, e, x3, x4, x5, x6, x7, x8⟩ := F5 p f d hp ep1 hf hv
      refine ⟨x1, x2, q, e, x3, x4, ?_, x6, x8⟩
      show fu_rn g k (c1 q) = p
      rw [x5, fu_rn_n npg]
  · obtain ⟨d, hd, hh⟩ := i6 p f e hp ec hf hv
    have hd2 : fu_rv g k (v1 (c1 p) f) = some (fu_rn g k d) := by rw [hd]; rfl
    have hh2 : ∀ h, fu_Cp cnt (fun p => fu_rn g k (c1 p)) L2 R2 (a + 1) pc2 h → h e = h (fu_rn g k d) := by
      intro h H
      rw [fu_rn_h (K h H).1, hh h (K h H).2]
    show ∃ d, fu_v2 v1 g k (fu_rn g k (c1 p)) f = some d ∧ _
    by_cases z : c1 p = g
    · rw [z, fu_rn_g]
      rw [z] at hd2
      unfold fu_v2
      rw [if_pos rfl]
      cases y : fu_rv g k (v1 k f) with
      | none => exact ⟨_, hd2, hh2⟩
      | some d2 =>
        refine ⟨d2, rfl, fun h H => ?_⟩
        rw [hh2 h H]
        by_cases x : fu_rn g k d = d2
        · rw [x]
        · obtain ⟨i, q1, q2, q3, q4⟩ := j5 f _ _ hf hd2 y x
          have := H.2 i (by omega) q2
          rw [q3, q4] at this
          exact this
    · rw [fu_rn_n z]
      unfold fu_v2
      by_cases y : c1 p = k
      · rw [y] at hd2
        rw [if_pos y, hd2]
        exact ⟨_, rfl, hh2⟩
      · rw [if_neg y]
        exact ⟨_, hd2, hh2⟩
  · obtain ⟨ep1, npg⟩ := cl p hp ep
    by_cases z : p = k
    · subst z
      show (if p = p then ty else t1 p) < 8 ∧ ∀ i, bt (lo (if p = p then ty else t1 p)) i = true ↔ _
      rw [if_pos rfl]
      refine ⟨hty, fun i => ?_⟩
      rw [hl, b_and, Bool.and_eq_true, (i8 p hk ek).2 i, (i8 g hg eg).2 i]
      refine ⟨fun h q hq eq => ?_, fun h => ⟨fun q hq eq => h q hq ?_, fun q hq eq => h q hq ?_⟩⟩
      · have eq : fu_rn g p (c1 q) = p := eq
        by_cases y : c1 q = g
        · exact h.2 q hq y
        · rw [fu_rn_n y] at eq
          exact h.1 q hq eq
      · show fu_rn g p (c1 q) = p
        rw [eq, fu_rn_n nkg]
      · show fu_rn g p (c1 q) = p
        rw [eq, fu_rn_g]
    · show (if p = k then ty else t1 p) < 8 ∧ ∀ i, bt (lo (if p = k then ty else t1 p)) i = true ↔ _
      rw [if_neg z]
      refine ⟨(i8 p hp ep1).1, fun i => ?_⟩
      rw [(i8 p hp ep1).2 i]
      refine ⟨fun h q hq eq => h q hq ?_, fun h q hq eq => h q hq ?_⟩
      · have eq : fu_rn g k (c1 q) = p := eq
        by_cases y : c1 q = g
        · rw [y, fu_rn_g] at eq
          exact absurd eq.symm z
        · rw [fu_rn_n y] at eq
          exact eq
      · show fu_rn g k (c1 q) = p
        rw [eq, fu_rn_n npg]
  · have := fu_ld_rn hg eg ek nkg
    omega
theorem fu_Xpc (I : fu_X cnt c t v lo n m c1 t1 v1 L R a pc) (w1 : cnt ≤ 16) (h0 : 0 < cnt) : pc ≤ 46 := by
  have h1 := fu_ld_1 I.1 h0
  have h2 := I.2.2.2.2.2.2.2.2
  omega
theorem fu_Xpm (I : fu_X cnt c t v lo n m c1 t1 v1 L R a pc) (w1 : cnt ≤ 16) {k g : Nat} (hk : k < g) (hg : g < cnt) (ek : c1 k = k) (eg : c1 g = g) : pc ≤ 43 := by
  have h1 := fu_ld_rn (k := k) hg eg ek (by omega)
  have h3 : 1 ≤ fu_ld (fun p => fu_rn g k (c1 p)) cnt := by
    refine fu_cd_1 (j := k) (by omega) (decide_eq_true ?_)
    show fu_rn g k (c1 k) = k
    rw [ek, fu_rn_n (by omega)]
  have h2 := I.2.2.2.2.2.2.2.2
  omega
end
