/-! X: small methods -/
section
variable {nC mC pC : Int32} {LT TL CA TA VA SN SC ST SV PL PR IM : Nat → Int32}
theorem fx_ty_n {post : Int32 → Prop} {x : Int32} (h : x < 0 ∨ nI 8 ≤ x) (k : post 0) : wpX_isType post x := by
  unfold wpX_isType
  by_cases z : x < 0
  · exact br_t z k
  · exact br_f z (br_t (h.resolve_left z) k)
theorem fx_ty_y {post : Int32 → Prop} {j : Nat} (h : j < 8) (k : post 1) : wpX_isType post (nI j) := by
  unfold wpX_isType
  exact br_f (nI_pos (by omega)) (br_f (nI_ge (b := 8) h (by decide)) k)
theorem fx_fe_n {post : Int32 → Prop} {x : Int32} (h : x < 0 ∨ nI 3 ≤ x) (k : post 0) : wpX_isFeature post x := by
  unfold wpX_isFeature
  by_cases z : x < 0
  · exact br_t z k
  · exact br_f z (br_t (h.resolve_left z) k)
theorem fx_fe_y {post : Int32 → Prop} {j : Nat} (h : j < 3) (k : post 1) : wpX_isFeature post (nI j) := by
  unfold wpX_isFeature
  exact br_f (nI_pos (by omega)) (br_f (nI_ge (b := 3) h (by decide)) k)
theorem fx_no_n {post : Int32 → Prop} {x : Int32} (h : x < 0 ∨ nC ≤ x) (k : post 0) : wpX_isNode post (nC, mC, pC, LT, TL, CA, TA, VA, SN, SC, ST, SV, PL, PR, IM) x := by
  unfold wpX_isNode
  by_cases z : x < 0
  · exact br_t z k
  · exact br_f z (br_t (h.resolve_left z) k)
theorem fx_no_y {post : Int32 → Prop} {j cnt : Nat} (h : j < cnt) (hc : cnt ≤ 16) (k : post 1) : wpX_isNode post ((nI cnt), mC, pC, LT, TL, CA, TA, VA, SN, SC, ST, SV, PL, PR, IM) (nI j) := by
  unfold wpX_isNode
  exact br_f (nI_pos (by omega)) (br_f (nI_ge h (by omega)) k)
theorem fx_hb {post : Int32 → Prop} {x : Int32} {i : Nat} (hi : i < 32) (k : post (fu_b (bt x i))) : wpX_hasBit post x (nI i) := by
  unfold wpX_hasBit
  rw [fu_bit x hi]
  cases h : bt x i with
  | true =>
    rw [h] at k
    exact br_f (by decide) k
  | false =>
    rw [h] at k
    exact br_t rfl k
theorem fx_lu {post : Int32 → Prop} {a b : Nat} (ha : a < 8) (hb : b < 8) (k : post (fu_b (bt (LT b) a))) : wpX_liesUnder post (nC, mC, pC, LT, TL, CA, TA, VA, SN, SC, ST, SV, PL, PR, IM) (nI a) (nI b) := by
  unfold wpX_liesUnder
  refine ⟨vp_in_nI hb (by decide), ?_⟩
  rw [nI_clamp (show b < 2 ^ 31 by omega)]
  exact fx_hb (by omega) ⟨fu_nb _, k⟩
theorem fx_cb4 {post : Int32 → Prop} {x : Int32} (k : post (nI (fu_cd (bt x) 16))) : ∀ n i, 16 - i < n → i ≤ 16 → wX_countBits_4 post x n (nI (fu_cd (bt x) i)) (nI i) := by
  intro n
  induction n with
  | zero => intro i h; omega
  | succ n ih =>
    intro i h hi
    rw [wX_countBits_4]
    refine pk_le 16 i (fun z => ?_) (fun z => ?_)
    · have e : i = 16 := by omega
      subst e
      exact k
    · refine fx_hb (by omega) ?_
      have H := ih (i + 1) (by omega) (by omega)
      cases hb : bt x i with
      | true =>
        rw [fu_cd_t hb] at H
        exact br_f (by decide) (nm_r (nI_1 _) (nm_r (nI_1 _) H))
      | false =>
        rw [fu_cd_f hb] at H
        exact br_t rfl (nm_r (nI_1 _) H)
theorem fx_cb {post : Int32 → Prop} {x : Int32} (k : post (nI (fu_cd (bt x) 16))) : wpX_countBits post x := by
  unfold wpX_countBits
  exact ⟨17, fx_cb4 k 17 0 (by omega) (by omega)⟩
theorem fx_mi11 {post : Int32 → Prop} {x : Int32} : ∀ n d i, d < n → i + d = 8 → post (fu_sc (fun t => decide (LT t = x)) d i) → wX_meetIn__lowerTypes_11 post x nC mC pC LT TL CA TA VA SN SC ST SV PL PR IM n (nI i) := by
  intro n
  induction n with
  | zero => intro d i h; omega
  | succ n ih =>
    intro d i h hi k
    rw [wX_meetIn__lowerTypes_11]
    refine pk_le 8 i (fun z => ?_) (fun z => ?_)
    · have e : d = 0 := by omega
      subst e
      exact k
    · obtain ⟨d, rfl⟩ : ∃ e, d = e + 1 := ⟨d - 1, by omega⟩
      refine ⟨vp_in_nI z (by decide), ?_⟩
      rw [nI_clamp (show i < 2 ^ 31 by omega)]
      refine br_c (fun y => ?_) (fun y => nm_r (nI_1 i) ?_)
      · rw [fu_sc_t (decide_eq_true y)] at k
        exact k
      · rw [fu_sc_f (decide_eq_false y)] at k
        exact ih d (i + 1) (by omega) (by omega) k
theorem fx_mi {post : Int32 → Prop} {lo : Nat → Int32} {a b : Nat} (hl : ∀ t, t < 8 → LT t = lo t) (ha : a < 8) (hb : b < 8) (k : post (fu_mt lo a b)) : wpX_meetIn__lowerTypes post (nC, mC, pC, LT, TL, CA, TA, VA, SN, SC, ST, SV, PL, PR, IM) (nI a) (nI b) := by
  unfold wpX_meetIn__lowerTypes
  refine ⟨vp_in_nI ha (by decide), vp_in_nI hb (by decide), ?_⟩
  rw [nI_clamp (show a < 2 ^ 31 by omega), nI_clamp (show b < 2 ^ 31 by omega)]
  refine nm_e ⟨9, fx_mi11 9 8 0 (by omega) (by omega) ?_⟩
  have e : fu_sc (fun t => decide (LT t = LT a &&& LT b)) 8 0 = fu_mt lo a b := by
    rw [hl a ha, hl b hb]
    exact fu_sc_cg 8 0 fun t _ ht => by rw [hl t (by omega)]
  rw [e]
  exact k
theorem fx_mj11 {post : Int32 → Prop} {x : Int32} : ∀ n d i, d < n → i + d = 8 → post (fu_sc (fun t => decide (TL t = x)) d i) → wX_meetIn__triedLowerTypes_11 post x nC mC pC LT TL CA TA VA SN SC ST SV PL PR IM n (nI i) := by
  intro n
  induction n with
  | zero => intro d i h; omega
  | succ n ih =>
    intro d i h hi k
    rw [wX_meetIn__triedLowerTypes_11]
    refine pk_le 8 i (fun z => ?_) (fun z => ?_)
    · have e : d = 0 := by omega
      subst e
      exact k
    · obtain ⟨d, rfl⟩ : ∃ e, d = e + 1 := ⟨d - 1, by omega⟩
      refine ⟨vp_in_nI z (by decide), ?_⟩
      rw [nI_clamp (show i < 2 ^ 31 by omega)]
      refine br_c (fun y => ?_) (fun y => nm_r (nI_1 i) ?_)
      · rw [fu_sc_t (decide_eq_true y)] at k
        exact k
      · rw [fu_sc_f (decide_eq_false y)] at k
        exact ih d (i + 1) (by omega) (by omega) k
theorem fx_mj {post : Int32 → Prop} {lo : Nat → Int32} {a b : Nat} (hl : ∀ t, t < 8 → TL t = lo t) (ha : a < 8) (hb : b < 8) (k : post (fu_mt lo a b)) : wpX_meetIn__triedLowerTypes post (nC, mC, pC, LT, TL, CA, TA, VA, SN, SC, ST, SV, PL, PR, IM) (nI a) (nI b) := by
  unfold wpX_meetIn__triedLowerTypes
  refine ⟨vp_in_nI ha (by decide), vp_in_nI hb (by decide), ?_⟩
  rw [nI_clamp (show a < 2 ^ 31 by omega), nI_clamp (show b < 2 ^ 31 by omega)]
  refine nm_e ⟨9, fx_mj11 9 8 0 (by omega) (by omega) ?_⟩
  have e : fu_sc (fun t => decide (TL t = TL a &&& TL b)) 8 0 = fu_mt lo a b := by
    rw [hl a ha, hl b hb]
    exact fu_sc_cg 8 0 fun t _ ht => by rw [hl t (by omega)]
  rw [e]
  exact k
theorem fx_cc4 {post : Int32 → Prop} {cnt : Nat} {c : Nat → Nat} (hc : cnt ≤ 16) (hl : ∀ p, p < cnt → c p ≤ p) (hp : ∀ p, p < cnt → CA p = nI (c p)) (k : post (nI (fu_ld c cnt))) : ∀ n i, cnt - i < n → i ≤ cnt → wX_countClasses_4 post (nI cnt) mC pC LT TL CA TA VA SN SC ST SV PL PR IM n (nI (fu_ld c i)) (nI i) := by
  intro n
  induction n with
  | zero => intro i h; omega
  | succ n ih =>
    intro i h hi
    rw [wX_countClasses_4]
    refine pk_le cnt i (fun z => ?_) (fun z => ?_)
    · have e : i = cnt := by omega
      subst e
      exact k
    · refine ⟨vp_in_nI (by omega) (by decide), ?_⟩
      rw [nI_clamp (show i < 2 ^ 31 by omega), hp i z]
      have H := ih (i + 1) (by omega) (by omega)
      have hz := hl i z
      unfold fu_ld at H ⊢
      refine pk_eq (c i) i (fun y => ?_) (fun y => ?_)
      · rw [fu_cd_t (decide_eq_true y)] at H
        exact nm_r (nI_1 _) (nm_r (nI_1 _) H)
      · rw [fu_cd_f (decide_eq_false y)] at H
        exact nm_r (nI_1 _) H
theorem fx_cc {post : Int32 → Prop} {cnt : Nat} {c : Nat → Nat} (hc : cnt ≤ 16) (hl : ∀ p, p < cnt → c p ≤ p) (hp : ∀ p, p < cnt → CA p = nI (c p)) (k : post (nI (fu_ld c cnt))) : wpX_countClasses post ((nI cnt), mC, pC, LT, TL, CA, TA, VA, SN, SC, ST, SV, PL, PR, IM) := by
  unfold wpX_countClasses
  exact ⟨cnt + 1, fx_cc4 hc hl hp k (cnt + 1) 0 (by omega) (by omega)⟩
end
