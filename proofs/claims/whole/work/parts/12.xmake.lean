/-! X: merge, makeOne -/
section
variable {nC mC pC : Int32} {LT TL CA TA VA SN SC ST SV PL PR IM : Nat → Int32}
variable {cnt : Nat} {c t : Nat → Nat} {v : Nat → Nat → Option Nat} {lo : Nat → Int32} {n m : Nat}
theorem fx_mg50 {post : Int32 → SX → Prop} {c1 t1 : Nat → Nat} {v1 : Nat → Nat → Option Nat} {L R : Nat → Nat} {pc g k ty : Nat} (hc : cnt ≤ 16) (P : fu_PC cnt c1 t1 v1 CA TA VA)
    (bv : ∀ p f d, p < cnt → c1 p = p → f < 3 → v1 p f = some d → d < cnt) (hkg : k < g) (hg : g < cnt) (ek : c1 k = k) (eg : c1 g = g) (hpc : pc ≤ 43)
    (Q : ∀ j, j < pc → PL j = nI (L j) ∧ PR j = nI (R j))
    (K : ∀ L2 R2 pc2 (PL' PR' : Nat → Int32), fu_JP (fun f => fu_rv g k (v1 g f)) (fun f => fu_rv g k (v1 k f)) L R pc L2 R2 pc2 3 → (∀ j, j < pc2 → PL' j = nI (L2 j) ∧ PR' j = nI (R2 j)) →
      post 1 ((nI cnt), mC, (nI pc2), LT, TL, (fu_mp (fu_rx g k) 0 cnt CA), (upd TA k (nI ty)), (fu_mp (fu_jx (fun f => fu_v (fu_rv g k (v1 g f))) k) (3 * k) (3 * k + 3) (fu_mp (fu_rx g k) 0 (cnt * 3) VA)), SN, SC, ST, SV, PL', PR', IM)) :
    wX_merge_50 post (nI ty) (nI k) (nI g) (nI cnt) mC (nI pc) LT TL CA TA VA SN SC ST SV PL PR IM := by
  unfold wX_merge_50
  refine ⟨vp_in_nI (by omega) (by decide), ?_⟩
  rw [nI_clamp (show k < 2 ^ 31 by omega)]
  refine nm_e (fx_rn hc ?_)
  have rb : ∀ p f d, p < cnt → c1 p = p → f < 3 → fu_rv g k (v1 p f) = some d → d < 16 := by
    intro p f d hp ep hf h
    obtain ⟨e, he, hd⟩ := fu_rv_s h
    have be := bv p f e hp ep hf he
    rw [← hd]
    by_cases w : e = g
    · rw [w, fu_rn_g]; omega
    · rw [fu_rn_n w]; omega
  have q3 : ∀ p f, p < cnt → c1 p = p → f < 3 → fu_mp (fu_rx g k) 0 (cnt * 3) VA (3 * p + f) = fu_v (fu_rv g k (v1 p f)) := by
    intro p f hp ep hf
    rw [fu_mp_in (by omega) (by omega), P.2.2 p f hp ep hf, fu_rx_v (by omega) (fun d hd => ?_)]
    have := bv p f d hp ep hf hd
    omega
  exact fx_jv (vg := fun f => fu_rv g k (v1 g f)) (vk := fun f => fu_rv g k (v1 k f)) (by omega) (by omega) (by omega) (fun f hf => q3 g f hg eg hf) (fun f hf => q3 k f (by omega) ek hf) (fun f d hf h => rb g f d hg eg hf h) (fun f d hf h => rb k f d (by omega) ek hf h) (by omega) Q (fun L2 R2 pc2 PL' PR' J Q2 => K L2 R2 pc2 PL' PR' J Q2)
theorem fx_mg {post : Int32 → SX → Prop} {c1 t1 : Nat → Nat} {v1 : Nat → Nat → Option Nat} {L R : Nat → Nat} {pc a b g k : Nat} (hc : cnt ≤ 16) (hl : ∀ t, t < 8 → LT t = lo t) (P : fu_PC cnt c1 t1 v1 CA TA VA)
    (bv : ∀ p f d, p < cnt → c1 p = p → f < 3 → v1 p f = some d → d < cnt) (bt8 : ∀ p, p < cnt → c1 p = p → t1 p < 8) (hkg : k < g) (hg : g < cnt) (ek : c1 k = k) (eg : c1 g = g) (hpc : pc ≤ 43)
    (hor : (a = k ∧ b = g) ∨ (a = g ∧ b = k))
    (Q : ∀ j, j < pc → PL j = nI (L j) ∧ PR j = nI (R j))
    (K0 : fu_mt lo (t1 a) (t1 b) = -4 → post 0 ((nI cnt), mC, (nI pc), LT, TL, CA, TA, VA, SN, SC, ST, SV, PL, PR, IM))
    (K : ∀ ty, ty < 8 → lo ty = lo (t1 k) &&& lo (t1 g) → ∀ L2 R2 pc2 (PL' PR' : Nat → Int32), fu_JP (fun f => fu_rv g k (v1 g f)) (fun f => fu_rv g k (v1 k f)) L R pc L2 R2 pc2 3 → (∀ j, j < pc2 → PL' j = nI (L2 j) ∧ PR' j = nI (R2 j)) →
      post 1 ((nI cnt), mC, (nI pc2), LT, TL, (fu_mp (fu_rx g k) 0 cnt CA), (upd TA k (nI ty)), (fu_mp (fu_jx (fun f => fu_v (fu_rv g k (v1 g f))) k) (3 * k) (3 * k + 3) (fu_mp (fu_rx g k) 0 (cnt * 3) VA)), SN, SC, ST, SV, PL', PR', IM)) :
    wpX_merge post ((nI cnt), mC, (nI pc), LT, TL, CA, TA, VA, SN, SC, ST, SV, PL, PR, IM) (nI a) (nI b) := by
  have ha : a < cnt ∧ c1 a = a := by
    rcases hor with ⟨x, y⟩ | ⟨x, y⟩
    · subst x; exact ⟨by omega, ek⟩
    · subst x; exact ⟨hg, eg⟩
  have hb : b < cnt ∧ c1 b = b := by
    rcases hor with ⟨x, y⟩ | ⟨x, y⟩
    · subst y; exact ⟨hg, eg⟩
    · subst y; exact ⟨by omega, ek⟩
  unfold wpX_merge
  refine ⟨vp_in_nI (by omega) (by decide), vp_in_nI (by omega) (by decide), ?_⟩
  rw [nI_clamp (show a < 2 ^ 31 by omega), nI_clamp (show b < 2 ^ 31 by omega), P.2.1 a ha.1 ha.2, P.2.1 b hb.1 hb.2]
  refine fx_mi hl (bt8 a ha.1 ha.2) (bt8 b hb.1 hb.2) ?_
  rcases fu_mt_sp lo (t1 a) (t1 b) with ⟨e, _⟩ | ⟨ty, hty, e, el⟩
  · exact br_t e (K0 e)
  · rw [e]
    refine br_f (fu_ne (by omega)) ?_
    have el2 : lo ty = lo (t1 k) &&& lo (t1 g) := by
      rcases hor with ⟨x, y⟩ | ⟨x, y⟩
      · rw [el, x, y]
      · rw [el, x, y, fu_andc]
    have M : wX_merge_50 post (nI ty) (nI k) (nI g) (nI cnt) mC (nI pc) LT TL CA TA VA SN SC ST SV PL PR IM := fx_mg50 hc P bv hkg hg ek eg hpc Q (K ty hty el2)
    rcases hor with ⟨x, y⟩ | ⟨x, y⟩
    · subst x y
      refine br_f (nI_ge hkg (by omega)) ?_
      unfold wX_merge_38
      exact br_f (nI_ge hkg (by omega)) M
    · subst x y
      refine br_t (nI_le (by omega) (by omega)) ?_
      unfold wX_merge_38
      exact br_t (nI_le (by omega) (by omega)) M
theorem fx_mo13 {post : Int32 → SX → Prop} (W : fu_WF cnt c t v) (F : fu_Fit lo) (hl : ∀ t, t < 8 → LT t = lo t) (h0 : 0 < cnt)
    (K0 : fu_Bad cnt c t v lo n m → ∀ (pC : Int32) (CA TA VA PL PR : Nat → Int32), post 0 ((nI cnt), mC, pC, LT, TL, CA, TA, VA, SN, SC, ST, SV, PL, PR, IM))
    (K1 : ∀ c1 t1 v1 L R a pc, fu_X cnt c t v lo n m c1 t1 v1 L R a pc → pc ≤ a → ∀ (pC : Int32) (CA TA VA PL PR : Nat → Int32), fu_PC cnt c1 t1 v1 CA TA VA → post 1 ((nI cnt), mC, pC, LT, TL, CA, TA, VA, SN, SC, ST, SV, PL, PR, IM)) :
    ∀ q i (c1 t1 : Nat → Nat) (v1 : Nat → Nat → Option Nat) (L R : Nat → Nat) (pc : Nat) (CA TA VA PL PR : Nat → Int32), 46 - i < q → i ≤ pc → fu_X cnt c t v lo n m c1 t1 v1 L R i pc → fu_PC cnt c1 t1 v1 CA TA VA → (∀ j, j < pc → PL j = nI (L j) ∧ PR j = nI (R j)) → wX_makeOne_13 post q (nI i) (nI cnt) mC (nI pc) LT TL CA TA VA SN SC ST SV PL PR IM := by
  intro q
  induction q with
  | zero => intro i c1 t1 v1 L R pc CA TA VA PL PR h; omega
  | succ q ih =>
    intro i c1 t1 v1 L R pc CA TA VA PL PR h hi I P Q
    have w1 := W.1
    have hpc := fu_Xpc I w1 h0
    rw [wX_makeOne_13]
    refine pk_le pc i (fun z => ?_) (fun z => ?_)
    · exact K1 c1 t1 v1 L R i pc I z _ CA TA VA PL PR P
    · refine br_f (nI_ge (b := 46) (by omega) (by decide)) ⟨vp_in_nI (by omega) (by decide), ?_⟩
      have i1 := I.1
      obtain ⟨hL, hR, _⟩ := I.2.2.2.1 i z
      have bL := i1 _ hL
      have bR := i1 _ hR
      rw [nI_clamp (show i < 2 ^ 31 by omega), (Q i z).1, (Q i z).2]
      refine ⟨vp_in_nI (by omega) (by decide), ?_⟩
      rw [nI_clamp (show L i < 2 ^ 31 by omega), nI_clamp (show R i < 2 ^ 31 by omega), P.1 _ hL, P.1 _ hR]
      refine nm_e ⟨vp_in_nI (by omega) (by decide), vp_in_nI (by omega) (by decide), nm_e ?_⟩
      refine pk_eq (c1 (L i)) (c1 (R i)) (fun y => nm_r (nI_1 i) (ih (i + 1) c1 t1 v1 L R pc CA TA VA PL PR (by omega) (by omega) (fu_Xs I z y) P Q)) (fun y => ?_)
      have bv : ∀ p f d, p < cnt → c1 p = p → f < 3 → v1 p f = some d → d < cnt := fun p f d hp ep hf hv => (I.2.2.2.2.1 p f d hp ep hf hv).1
      have b8 : ∀ p, p < cnt → c1 p = p → t1 p < 8 := fun p hp ep => (I.2.2.2.2.2.2.2.1 p hp ep).1
      have key : ∀ g k, k < g → g < cnt → c1 k = k → c1 g = g → ((c1 (L i) = k ∧ c1 (R i) = g) ∨ (c1 (L i) = g ∧ c1 (R i) = k)) →
          wpX_merge (fun r_27 u => match u with | (nC, mC, pC, LT, TL, CA, TA, VA, SN, SC, ST, SV, PL, PR, IM) => (((r_27 = 0 → (post 0 (nC, mC, pC, LT, TL, CA, TA, VA, SN, SC, ST, SV, PL, PR, IM))) ∧ (¬ r_27 = 0 → (∀ x3_44 : Int32, x3_44 = nI i + 1 → (wX_makeOne_13 post q x3_44 nC mC pC LT TL CA TA VA SN SC ST SV PL PR IM)))))) ((nI cnt), mC, (nI pc), LT, TL, CA, TA, VA, SN, SC, ST, SV, PL, PR, IM) (nI (c1 (L i))) (nI (c1 (R i))) := by
        intro g k hkg hg ek eg hor
        refine fx_mg (L := L) (R := R) w1 hl P bv b8 hkg hg ek eg (fu_Xpm I w1 hkg hg ek eg) hor Q (fun e => ?_) (fun ty hty el L2 R2 pc2 PL' PR' J Q2 => ?_)
        · exact br_t rfl (K0 (fu_Xf F.2.2 I z e) _ CA TA VA PL PR)
        · refine br_f (by decide) (nm_r (nI_1 i) ?_)
          exact ih (i + 1) _ _ _ L2 R2 pc2 _ _ _ PL' PR' (by omega) (by have := J.1; omega) (fu_Xm I W z hkg hor hty el J) (fu_PCm w1 P i1 bv hkg hg ek eg) Q2
      rcases Nat.lt_or_gt_of_ne y with y | y
      · exact key _ _ y (by omega) bL.2 bR.2 (Or.inl ⟨rfl, rfl⟩)
      · exact key _ _ y (by omega) bR.2 bL.2 (Or.inr ⟨rfl, rfl⟩)
theorem fx_mo {post : Int32 → SX → Prop} (W : fu_WF cnt c t v) (F : fu_Fit lo) (hl : ∀ t, t < 8 → LT t = lo t) (hn : n < cnt) (hm : m < cnt) (P : fu_PC cnt c t v CA TA VA)
    (K0 : fu_Bad cnt c t v lo n m → ∀ (pC : Int32) (CA TA VA PL PR : Nat → Int32), post 0 ((nI cnt), mC, pC, LT, TL, CA, TA, VA, SN, SC, ST, SV, PL, PR, IM))
    (K1 : ∀ c1 t1 v1 L R a pc, fu_X cnt c t v lo n m c1 t1 v1 L R a pc → pc ≤ a → ∀ (pC : Int32) (CA TA VA PL PR : Nat → Int32), fu_PC cnt c1 t1 v1 CA TA VA → post 1 ((nI cnt), mC, pC, LT, TL, CA, TA, VA, SN, SC, ST, SV, PL, PR, IM)) :
    wpX_makeOne post ((nI cnt), mC, pC, LT, TL, CA, TA, VA, SN, SC, ST, SV, PL, PR, IM) (nI n) (nI m) := by
  unfold wpX_makeOne
  refine fx_ap (pc := 0) (by omega) ⟨47, ?_⟩
  refine fx_mo13 (n := n) (m := m) W F hl (by omega) K0 K1 47 0 c t v (fun _ => n) (fun _ => m) 1 CA TA VA _ _ (by omega) (by omega) (fu_X0 W hn hm rfl rfl) P (fun j hj => ?_)
  have : j = 0 := by omega
  subst this
  exact ⟨pk_us, pk_us⟩
end
