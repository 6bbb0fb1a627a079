/-! the relation -/
def fu_RS (nX : Int32) (CA TA VA : Nat → Int32) (nY : Int32) (CL TY VL : Nat → Int32) : Prop :=
  ∃ cnt c t v, fu_WF cnt c t v ∧ nX = nI cnt ∧ nY = nI cnt ∧ fu_PC cnt c t v CA TA VA ∧ fu_PC cnt c t v CL TY VL
theorem fu_PC_cg {cnt : Nat} {c t : Nat → Nat} {v : Nat → Nat → Option Nat} {A T V A2 T2 V2 : Nat → Int32} (hc : cnt ≤ 16) (P : fu_PC cnt c t v A T V) (h1 : ∀ j, j < 16 → A2 j = A j) (h2 : ∀ j, j < 16 → T2 j = T j) (h3 : ∀ j, j < 48 → V2 j = V j) : fu_PC cnt c t v A2 T2 V2 :=
  ⟨fun p hp => (h1 p (by omega)).trans (P.1 p hp), fun p hp e => (h2 p (by omega)).trans (P.2.1 p hp e), fun p f hp e hf => (h3 (3 * p + f) (by omega)).trans (P.2.2 p f hp e hf)⟩
def fu_MS (q : Nat) (SN SC ST SV KE : Nat → Int32) : Prop :=
  ∀ s, s < q → fu_RS (SN s) (fun j => SC (s * 16 + j)) (fun j => ST (s * 16 + j)) (fun j => SV (s * 48 + j)) (KE (81 * s + 80)) (fun j => KE (81 * s + j)) (fun j => KE (81 * s + 16 + j)) (fun j => KE (81 * s + 32 + j))
/-- the same hierarchy, the same nodes (types and values at the leaders), the same marks -/
def i_Rel (_ : Nat) (u : SX) (v : SY) : Prop := match u, v with
  | (nC, mC, _, LT, _, CA, TA, VA, SN, SC, ST, SV, _, _, _), (cn, mY, BE, CL, TY, VL, _, _, _, KE) =>
    ∃ lo q cnt c t w, fu_Fit lo ∧ (∀ t, t < 8 → LT t = lo t) ∧ (∀ t, t < 8 → BE t = lo t) ∧ fu_WF cnt c t w ∧ nC = nI cnt ∧ cn = nI cnt ∧ fu_PC cnt c t w CA TA VA ∧ fu_PC cnt c t w CL TY VL ∧ q ≤ 6 ∧ mC = nI q ∧ mY = nI q ∧ fu_MS q SN SC ST SV KE
theorem i_up {k : Nat} {u : SX} {v : SY} (h : i_Rel k u v) : i_Rel (k + 4) u v := h
section
variable {nC mC pC : Int32} {LT TL CA TA VA SN SC ST SV PL PR IM : Nat → Int32}
variable {cn mk : Int32} {BE CL TY VL FR IG PE KE : Nat → Int32}
theorem fu_Ri {k : Nat} {lo : Nat → Int32} {q cnt : Nat} {c t : Nat → Nat} {w : Nat → Nat → Option Nat} (F : fu_Fit lo) (l1 : ∀ t, t < 8 → LT t = lo t) (l2 : ∀ t, t < 8 → BE t = lo t) (W : fu_WF cnt c t w) (P1 : fu_PC cnt c t w CA TA VA) (P2 : fu_PC cnt c t w CL TY VL) (hq : q ≤ 6) (M : fu_MS q SN SC ST SV KE) : i_Rel k ((nI cnt), (nI q), pC, LT, TL, CA, TA, VA, SN, SC, ST, SV, PL, PR, IM) ((nI cnt), (nI q), BE, CL, TY, VL, FR, IG, PE, KE) := by
  unfold i_Rel
  exact ⟨lo, q, cnt, c, t, w, F, l1, l2, W, rfl, rfl, P1, P2, hq, rfl, rfl, M⟩
end
/-! a new node, a new value -/
section
variable {cnt : Nat} {c t : Nat → Nat} {v : Nat → Nat → Option Nat}
theorem fu_nd_W (W : fu_WF cnt c t v) (hc : cnt < 16) {a : Nat} (ha : a < 8) : fu_WF (cnt + 1) (fun p => if p = cnt then cnt else c p) (fun p => if p = cnt then a else t p) (fun p f => if p = cnt then none else v p f) := by
  obtain ⟨w1, w2, w3, w4⟩ := W
  refine ⟨by omega, fun p hp => ?_, fun p hp e => ?_, fun p f d hp e hf hv => ?_⟩
  · show (if p = cnt then cnt else c p) ≤ p ∧ (if (if p = cnt then cnt else c p) = cnt then cnt else c (if p = cnt then cnt else c p)) = if p = cnt then cnt else c p
    by_cases z : p = cnt
    · rw [if_pos z, if_pos rfl]
      exact ⟨by omega, rfl⟩
    · have := w2 p (by omega)
      rw [if_neg z, if_neg (by omega)]
      exact this
  · have e : (if p = cnt then cnt else c p) = p := e
    show (if p = cnt then a else t p) < 8
    by_cases z : p = cnt
    · rw [if_pos z]; exact ha
    · rw [if_neg z] at e ⊢
      exact w3 p (by omega) e
  · have e : (if p = cnt then cnt else c p) = p := e
    have hv : (if p = cnt then none else v p f) = some d := hv
    show d < cnt + 1 ∧ (if d = cnt then cnt else c d) = d
    by_cases z : p = cnt
    · rw [if_pos z] at hv
      exact nomatch hv
    · rw [if_neg z] at e hv
      have k := w4 p f d (by omega) e hf hv
      rw [if_neg (by omega)]
      exact ⟨by omega, k.2⟩
theorem fu_nd_P {A T V V2 : Nat → Int32} (P : fu_PC cnt c t v A T V) {a : Nat} (h1 : ∀ f, f < 3 → V2 (3 * cnt + f) = -4) (h2 : ∀ j, j < 3 * cnt → V2 j = V j) : fu_PC (cnt + 1) (fun p => if p = cnt then cnt else c p) (fun p => if p = cnt then a else t p) (fun p f => if p = cnt then none else v p f) (upd A cnt (nI cnt)) (upd T cnt (nI a)) V2 := by
  refine ⟨fun p hp => ?_, fun p hp e => ?_, fun p f hp e hf => ?_⟩
  · show upd A cnt (nI cnt) p = nI (if p = cnt then cnt else c p)
    by_cases z : p = cnt
    · rw [if_pos z, z, pk_us]
    · rw [if_neg z, pk_un z]
      exact P.1 p (by omega)
  · have e : (if p = cnt then cnt else c p) = p := e
    show upd T cnt (nI a) p = nI (if p = cnt then a else t p)
    by_cases z : p = cnt
    · rw [if_pos z, z, pk_us]
    · rw [if_neg z] at e ⊢
      rw [pk_un z]
      exact P.2.1 p (by omega) e
  · have e : (if p = cnt then cnt else c p) = p := e
    show V2 (3 * p + f) = fu_v (if p = cnt then none else v p f)
    by_cases z : p = cnt
    · rw [if_pos z, z, h1 f hf]
      rfl
    · rw [if_neg z] at e ⊢
      rw [h2 _ (by omega)]
      exact P.2.2 p f (by omega) e hf
theorem fu_ar_W (W : fu_WF cnt c t v) {x y g : Nat} (hy : y < cnt) (ey : c y = y) : fu_WF cnt c t (fun p f => if p = x ∧ f = g then some y else v p f) := by
  obtain ⟨w1, w2, w3, w4⟩ := W
  refine ⟨w1, w2, w3, fun p f d hp e hf hv => ?_⟩
  have hv : (if p = x ∧ f = g then some y else v p f) = some d := hv
  by_cases z : p = x ∧ f = g
  · rw [if_pos z] at hv
    cases hv
    exact ⟨hy, ey⟩
  · rw [if_neg z] at hv
    exact w4 p f d hp e hf hv
theorem fu_ar_P {A T V : Nat → Int32} (P : fu_PC cnt c t v A T V) {x y g : Nat} (hg : g < 3) : fu_PC cnt c t (fun p f => if p = x ∧ f = g then some y else v p f) A T (upd V (3 * x + g) (nI y)) := by
  refine ⟨P.1, P.2.1, fun p f hp e hf => ?_⟩
  show upd V (3 * x + g) (nI y) (3 * p + f) = fu_v (if p = x ∧ f = g then some y else v p f)
  by_cases z : p = x ∧ f = g
  · rw [if_pos z, z.1, z.2, pk_us]
    rfl
  · rw [if_neg z, pk_un (by omega)]
    exact P.2.2 p f hp e hf
end
/-! marks -/
theorem fu_MS_le {q r : Nat} {SN SC ST SV KE : Nat → Int32} (M : fu_MS q SN SC ST SV KE) (h : r ≤ q) : fu_MS r SN SC ST SV KE := fun s hs => M s (by omega)
theorem fu_RS_cg {nX nY : Int32} {CA TA VA CL TY VL CA2 TA2 VA2 CL2 TY2 VL2 : Nat → Int32} (H : fu_RS nX CA TA VA nY CL TY VL) (h1 : ∀ j, j < 16 → CA2 j = CA j) (h2 : ∀ j, j < 16 → TA2 j = TA j) (h3 : ∀ j, j < 48 → VA2 j = VA j) (h4 : ∀ j, j < 16 → CL2 j = CL j) (h5 : ∀ j, j < 16 → TY2 j = TY j) (h6 : ∀ j, j < 48 → VL2 j = VL j) : fu_RS nX CA2 TA2 VA2 nY CL2 TY2 VL2 := by
  obtain ⟨cnt, c, t, v, W, e1, e2, P1, P2⟩ := H
  exact ⟨cnt, c, t, v, W, e1, e2, fu_PC_cg W.1 P1 h1 h2 h3, fu_PC_cg W.1 P2 h4 h5 h6⟩
/-- the trial slot lies behind the marks -/
theorem fu_MS_6 {q : Nat} {x : Int32} {SN SC ST SV KE CA TA VA : Nat → Int32} (M : fu_MS q SN SC ST SV KE) {z : Nat} (hz : q ≤ z) : fu_MS q (upd SN z x) (fu_ci CA (z * 16) 0 16 SC) (fu_ci TA (z * 16) 0 16 ST) (fu_ci VA (z * 48) 0 48 SV) KE := by
  intro s hs
  rw [pk_un (show s ≠ z by omega)]
  exact fu_RS_cg (M s hs) (fun j hj => fu_ci_out (by omega)) (fun j hj => fu_ci_out (by omega)) (fun j hj => fu_ci_out (by omega)) (fun _ _ => rfl) (fun _ _ => rfl) (fun _ _ => rfl)
theorem fu_MS_s {q cnt : Nat} {c t : Nat → Nat} {v : Nat → Nat → Option Nat} {SN SC ST SV KE KE2 CA TA VA CL TY VL : Nat → Int32} (M : fu_MS q SN SC ST SV KE) (W : fu_WF cnt c t v) (P1 : fu_PC cnt c t v CA TA VA) (P2 : fu_PC cnt c t v CL TY VL)
    (h1 : ∀ j, j < 16 → KE2 (81 * q + j) = CL j) (h2 : ∀ j, j < 16 → KE2 (81 * q + 16 + j) = TY j) (h3 : ∀ j, j < 48 → KE2 (81 * q + 32 + j) = VL j) (h4 : KE2 (81 * q + 80) = nI cnt) (h5 : ∀ j, j < 81 * q → KE2 j = KE j) :
    fu_MS (q + 1) (upd SN q (nI cnt)) (fu_ci CA (q * 16) 0 16 SC) (fu_ci TA (q * 16) 0 16 ST) (fu_ci VA (q * 48) 0 48 SV) KE2 := by
  intro s hs
  by_cases z : s = q
  · subst z
    rw [pk_us, h4]
    exact ⟨cnt, c, t, v, W, rfl, rfl, fu_PC_cg W.1 P1 (fun j hj => fu_ci_in hj) (fun j hj => fu_ci_in hj) (fun j hj => fu_ci_in hj), fu_PC_cg W.1 P2 h1 h2 h3⟩
  · rw [pk_un z, h5 _ (by omega)]
    exact fu_RS_cg (M s (by omega)) (fun j hj => fu_ci_out (by omega)) (fun j hj => fu_ci_out (by omega)) (fun j hj => fu_ci_out (by omega)) (fun j hj => h5 _ (by omega)) (fun j hj => h5 _ (by omega)) (fun j hj => h5 _ (by omega))
