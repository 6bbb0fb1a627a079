/-! X: under, node, reach -/
theorem fu_uu {A : Nat → Int32} {i : Nat} {x y : Int32} : upd (upd A i x) i y = upd A i y := by
  funext j
  unfold upd
  by_cases z : j = i
  · rw [if_pos z, if_pos z]
  · rw [if_neg z, if_neg z, if_neg z]
theorem fu_nw_cg {lo l2 : Nat → Int32} {a b t : Nat} (h : ∀ t, t < 8 → l2 t = lo t) (ha : a < 8) (ht : t < 8) : fu_nw l2 a b t = fu_nw lo a b t := by
  unfold fu_nw
  rw [h a ha, h t ht]
section
variable {nC mC pC : Int32} {LT TL CA TA VA SN SC ST SV PL PR IM : Nat → Int32}
theorem fx_tu2 {post : SX → Prop} {a b : Nat} (ha : a < 8) (hb : b < 8) : ∀ n i (TL : Nat → Int32), 8 - i < n → i ≤ 8 → post (nC, mC, pC, LT, (fu_mp (fun j _ => fu_nw LT a b j) i 8 TL), CA, TA, VA, SN, SC, ST, SV, PL, PR, IM) → wX_tryUnder_2 post (nI a) (nI b) nC mC pC n (nI i) LT TL CA TA VA SN SC ST SV PL PR IM := by
  intro n
  induction n with
  | zero => intro i TL h; omega
  | succ n ih =>
    intro i TL h hi k
    rw [wX_tryUnder_2]
    refine pk_le 8 i (fun z => ?_) (fun z => ?_)
    · rw [fu_mp_e z] at k
      exact k
    · refine ⟨vp_in_nI z (by decide), vp_in_nI z (by decide), ?_⟩
      rw [nI_clamp (show i < 2 ^ 31 by omega), nI_clamp (show a < 2 ^ 31 by omega)]
      refine nm_e (fx_lu hb z ?_)
      have H := ih (i + 1) (upd TL i (fu_nw LT a b i)) (by omega) (by omega) (by
        rw [← fu_mp_s (A := TL) z] at k
        exact k)
      cases y : bt (LT i) b with
      | true =>
        have e : fu_nw LT a b i = LT i ||| LT a := if_pos y
        rw [e] at H
        refine br_f (by decide) ⟨vp_in_nI z (by decide), vp_in_nI ha (by decide), vp_in_nI z (by decide), ?_⟩
        rw [pk_us, fu_uu]
        exact nm_e (nm_r (nI_1 i) H)
      | false =>
        have e : fu_nw LT a b i = LT i := if_neg (by rw [y]; decide)
        rw [e] at H
        exact br_t rfl (nm_r (nI_1 i) H)
theorem fx_tu {post : SX → Prop} {a b : Nat} (ha : a < 8) (hb : b < 8) (k : post (nC, mC, pC, LT, (fu_mp (fun j _ => fu_nw LT a b j) 0 8 TL), CA, TA, VA, SN, SC, ST, SV, PL, PR, IM)) : wpX_tryUnder post (nC, mC, pC, LT, TL, CA, TA, VA, SN, SC, ST, SV, PL, PR, IM) (nI a) (nI b) := by
  unfold wpX_tryUnder
  exact ⟨9, fx_tu2 ha hb 9 0 TL (by omega) (by omega) k⟩
theorem fx_em10 {post J2 : Int32 → Prop} {lo : Nat → Int32} {a : Nat} (hl : ∀ t, t < 8 → TL t = lo t) (ha : a < 8) (K : (∀ b, b < a → lo a &&& lo b ≠ 0 → fu_mt lo a b ≠ -4) → J2 (nI (a + 1))) (K0 : ¬ fu_okX lo → post 0) :
    ∀ n i, a - i < n → i ≤ a → (∀ b, b < i → lo a &&& lo b ≠ 0 → fu_mt lo a b ≠ -4) → wX_everyMeetExists__triedLowerTypes_10 post J2 (nI a) nC mC pC LT TL CA TA VA SN SC ST SV PL PR IM n (nI i) := by
  intro n
  induction n with
  | zero => intro i h; omega
  | succ n ih =>
    intro i h hi D
    rw [wX_everyMeetExists__triedLowerTypes_10]
    refine pk_le a i (fun z => ?_) (fun z => ?_)
    · have e : i = a := by omega
      subst e
      exact nm_r (nI_1 i) (K D)
    · refine ⟨vp_in_nI (by omega) (by decide), vp_in_nI (by omega) (by decide), ?_⟩
      rw [nI_clamp (show i < 2 ^ 31 by omega), nI_clamp (show a < 2 ^ 31 by omega), hl a ha, hl i (by omega)]
      have S : (lo a &&& lo i ≠ 0 → fu_mt lo a i ≠ -4) → wX_everyMeetExists__triedLowerTypes_10 post J2 (nI a) nC mC pC LT TL CA TA VA SN SC ST SV PL PR IM n (nI (i + 1)) := fun hs =>
        ih (i + 1) (by omega) (by omega) (fun b hb => by
          by_cases y : b = i
          · rw [y]; exact hs
          · exact D b (by omega))
      refine br_c (fun y => ?_) (fun y => ?_)
      · unfold wX_everyMeetExists__triedLowerTypes_30
        exact br_t rfl (nm_r (nI_1 i) (S (fun w => absurd y w)))
      · unfold wX_everyMeetExists__triedLowerTypes_30
        refine br_f (by decide) (fx_mj hl ha (by omega) ?_)
        refine br_c (fun w => K0 (fun ok => ok a i ha z y w)) (fun w => nm_r (nI_1 i) (S (fun _ => w)))
theorem fx_em2 {post : Int32 → Prop} {lo : Nat → Int32} (hl : ∀ t, t < 8 → TL t = lo t) (K : fu_okX lo → post 1) (K0 : ¬ fu_okX lo → post 0) :
    ∀ n i, 8 - i < n → i ≤ 8 → (∀ a b, a < i → b < a → lo a &&& lo b ≠ 0 → fu_mt lo a b ≠ -4) → wX_everyMeetExists__triedLowerTypes_2 post nC mC pC LT TL CA TA VA SN SC ST SV PL PR IM n (nI i) := by
  intro n
  induction n with
  | zero => intro i h; omega
  | succ n ih =>
    intro i h hi D
    rw [wX_everyMeetExists__triedLowerTypes_2]
    refine pk_le 8 i (fun z => ?_) (fun z => ?_)
    · exact K (fun a b ha hb => D a b (by omega) hb)
    · refine ⟨i + 1, fx_em10 hl z (fun hd => ?_) K0 (i + 1) 0 (by omega) (by omega) (fun b hb => by omega)⟩
      refine ih (i + 1) (by omega) (by omega) (fun a b ha hb => ?_)
      by_cases y : a = i
      · subst y; exact hd b hb
      · exact D a b (by omega) hb
theorem fx_em {post : Int32 → Prop} {lo : Nat → Int32} (hl : ∀ t, t < 8 → TL t = lo t) (K : fu_okX lo → post 1) (K0 : ¬ fu_okX lo → post 0) : wpX_everyMeetExists__triedLowerTypes post (nC, mC, pC, LT, TL, CA, TA, VA, SN, SC, ST, SV, PL, PR, IM) := by
  unfold wpX_everyMeetExists__triedLowerTypes
  exact ⟨9, fx_em2 hl K K0 9 0 (by omega) (by omega) (fun a b ha => by omega)⟩
theorem fx_un75 {post : Int32 → SX → Prop} {b : Nat} (hb : b < 8) : ∀ n i (LT : Nat → Int32), 8 - i < n → i ≤ 8 → post (nI (fu_cd (bt (fu_mp (fun j _ => TL j) i 8 LT b)) 16)) (nC, mC, pC, (fu_mp (fun j _ => TL j) i 8 LT), TL, CA, TA, VA, SN, SC, ST, SV, PL, PR, IM) → wX_under_75 post (nI b) nC mC pC n (nI i) LT TL CA TA VA SN SC ST SV PL PR IM := by
  intro n
  induction n with
  | zero => intro i LT h; omega
  | succ n ih =>
    intro i LT h hi k
    rw [wX_under_75]
    refine pk_le 8 i (fun z => ?_) (fun z => ?_)
    · rw [fu_mp_e z] at k
      refine ⟨vp_in_nI hb (by decide), ?_⟩
      rw [nI_clamp (show b < 2 ^ 31 by omega)]
      exact fx_cb k
    · refine ⟨vp_in_nI z (by decide), vp_in_nI z (by decide), ?_⟩
      rw [nI_clamp (show i < 2 ^ 31 by omega)]
      rw [← fu_mp_s (A := LT) z] at k
      exact nm_e (nm_r (nI_1 i) (ih (i + 1) _ (by omega) (by omega) k))
theorem fx_un45 {post : Int32 → SX → Prop} {lo : Nat → Int32} {a b : Nat} (hl : ∀ t, t < 8 → LT t = lo t) (ha : a < 8) (hb : b < 8)
    (K0 : ¬ fu_okX (fu_nw lo a b) → ∀ TL : Nat → Int32, post (-3) (nC, mC, pC, LT, TL, CA, TA, VA, SN, SC, ST, SV, PL, PR, IM))
    (K1 : fu_okX (fu_nw lo a b) → ∀ LT TL : Nat → Int32, (∀ t, t < 8 → LT t = fu_nw lo a b t) → post (nI (fu_cd (bt (fu_nw lo a b b)) 16)) (nC, mC, pC, LT, TL, CA, TA, VA, SN, SC, ST, SV, PL, PR, IM)) : wX_under_45 post (nI a) (nI b) 0 nC mC pC LT TL CA TA VA SN SC ST SV PL PR IM := by
  unfold wX_under_45
  refine br_t rfl (fx_tu ha hb ?_)
  have e : ∀ t, t < 8 → fu_mp (fun j _ => fu_nw LT a b j) 0 8 TL t = fu_nw lo a b t := fun t ht => by
    rw [fu_mp_in (by omega) ht]
    exact fu_nw_cg hl ha ht
  refine fx_em e (fun ok => ?_) (fun ok => br_t rfl (K0 ok _))
  have e2 : ∀ t, t < 8 → fu_mp (fun j _ => fu_mp (fun j _ => fu_nw LT a b j) 0 8 TL j) 0 8 LT t = fu_nw lo a b t := fun t ht => by
    rw [fu_mp_in (by omega) ht]
    exact e t ht
  refine br_f (by decide) ⟨9, fx_un75 hb 9 0 LT (by omega) (by omega) ?_⟩
  rw [e2 b hb]
  exact K1 ok _ _ e2
theorem fx_under {post : Int32 → SX → Prop} {lo : Nat → Int32} {a b : Nat} (hl : ∀ t, t < 8 → LT t = lo t) (ha : a < 8) (hb : b < 8)
    (Kt : a ≠ b → bt (lo a) b = true → post (-3) ((nI 0), mC, pC, LT, TL, CA, TA, VA, SN, SC, ST, SV, PL, PR, IM))
    (K0 : (a = b ∨ bt (lo a) b = false) → ¬ fu_okX (fu_nw lo a b) → ∀ TL : Nat → Int32, post (-3) ((nI 0), mC, pC, LT, TL, CA, TA, VA, SN, SC, ST, SV, PL, PR, IM))
    (K1 : (a = b ∨ bt (lo a) b = false) → fu_okX (fu_nw lo a b) → ∀ LT TL : Nat → Int32, (∀ t, t < 8 → LT t = fu_nw lo a b t) → post (nI (fu_cd (bt (fu_nw lo a b b)) 16)) ((nI 0), mC, pC, LT, TL, CA, TA, VA, SN, SC, ST, SV, PL, PR, IM)) : wpX_under post ((nI 0), mC, pC, LT, TL, CA, TA, VA, SN, SC, ST, SV, PL, PR, IM) (nI a) (nI b) := by
  unfold wpX_under
  refine fx_ty_y ha (br_f (by decide) (fx_ty_y hb (br_f (by decide) (br_t (by decide) ?_))))
  refine pk_eq a b (fun z => ?_) (fun z => ?_)
  · unfold wX_under_44
    exact fx_un45 hl ha hb (K0 (Or.inl z)) (K1 (Or.inl z))
  · refine fx_lu hb ha ?_
    rw [hl a ha]
    cases y : bt (lo a) b with
    | true =>
      refine br_f (by decide) ?_
      unfold wX_under_45
      exact br_f (by decide) (Kt z y)
    | false =>
      refine br_t rfl ?_
      unfold wX_under_44
      exact fx_un45 hl ha hb (K0 (Or.inr y)) (K1 (Or.inr y))
theorem fx_no42 {post : Int32 → SX → Prop} {cnt : Nat} (hc : cnt < 16) : ∀ n i (VA : Nat → Int32), 3 - i < n → i ≤ 3 → post (nI cnt) ((nI (cnt + 1)), mC, pC, LT, TL, CA, TA, (fu_mp (fun _ _ => -4) (3 * cnt + i) (3 * cnt + 3) VA), SN, SC, ST, SV, PL, PR, IM) → wX_node_42 post (nI cnt) nC mC pC n (nI i) LT TL CA TA VA SN SC ST SV PL PR IM := by
  intro n
  induction n with
  | zero => intro i VA h; omega
  | succ n ih =>
    intro i VA h hi k
    rw [wX_node_42]
    refine pk_le 3 i (fun z => ?_) (fun z => ?_)
    · rw [fu_mp_e (by omega)] at k
      exact nm_r (nI_1 cnt) k
    · rw [fu_a1 cnt i]
      refine ⟨vp_in_nI (by omega) (by decide), ?_⟩
      rw [nI_clamp (show 3 * cnt + i < 2 ^ 31 by omega)]
      rw [← fu_mp_s (A := VA) (show 3 * cnt + i < 3 * cnt + 3 by omega)] at k
      exact nm_e (nm_r (nI_1 i) (ih (i + 1) _ (by omega) (by omega) k))
section
variable {cnt : Nat} {c t : Nat → Nat} {v : Nat → Nat → Option Nat} {s0 : Nat}
/-- what has been looked at -/
def fu_Dn (v : Nat → Nat → Option Nat) (s w : Int32) (p i : Nat) : Prop := ∀ q f d, (q < p ∨ (q = p ∧ f < i)) → bt s q = true → f < 3 → v q f = some d → bt w d = true
theorem fu_Dn_k {s w : Int32} {p i : Nat} (D : fu_Dn v s w p i) (h : ∀ d, bt s p = true → v p i = some d → bt w d = true) : fu_Dn v s w p (i + 1) := by
  intro q f d hq hs hf hv
  by_cases z : q = p ∧ f = i
  · obtain ⟨z1, z2⟩ := z
    subst z1 z2
    exact h d hs hv
  · exact D q f d (by omega) hs hf hv
theorem fu_Dn_m {s w w' : Int32} {p i : Nat} (D : fu_Dn v s w p i) (h : ∀ i, bt w i = true → bt w' i = true) : fu_Dn v s w' p i :=
  fun q f d hq hs hf hv => h d (D q f d hq hs hf hv)
theorem fu_Dn_3 {s w : Int32} {p : Nat} (D : fu_Dn v s w p 3) : fu_Dn v s w (p + 1) 0 := by
  intro q f d hq hs hf hv
  exact D q f d (by omega) hs hf hv
theorem fx_wv15 {post : Int32 → Prop} {J4 : Int32 → Int32 → Prop} {s : Int32} {p : Nat} (W : fu_WF cnt c t v) (P : fu_PC cnt c t v CA TA VA) (I : fu_Rs cnt c v s0 s) (hp : p < cnt)
    (K : ∀ w, fu_Rs cnt c v s0 w → (∀ i, bt s i = true → bt w i = true) → fu_Dn v s w (p + 1) 0 → J4 w (nI (p + 1))) :
    ∀ n i w, 3 - i < n → i ≤ 3 → fu_Rs cnt c v s0 w → (∀ i, bt s i = true → bt w i = true) → fu_Dn v s w p i → wX_withValuesOf_15 post J4 s (nI p) (nI cnt) mC pC LT TL CA TA VA SN SC ST SV PL PR IM n w (nI i) := by
  intro n
  induction n with
  | zero => intro i w h; omega
  | succ n ih =>
    intro i w h hi J G D
    have w1 := W.1
    rw [wX_withValuesOf_15]
    refine pk_le 3 i (fun z => ?_) (fun z => ?_)
    · have e : i = 3 := by omega
      subst e
      exact nm_r (nI_1 p) (K w J G (fu_Dn_3 D))
    · rw [fu_a1 p i]
      refine ⟨vp_in_nI (by omega) (by decide), ?_⟩
      rw [nI_clamp (show 3 * p + i < 2 ^ 31 by omega)]
      refine nm_e (fx_hb (by omega) ?_)
      cases y : bt s p with
      | false => exact br_t rfl (nm_r (nI_1 i) (ih (i + 1) w (by omega) (by omega) J G (fu_Dn_k D (fun d hs _ => by rw [y] at hs; exact absurd hs (by decide)))))
      | true =>
        refine br_f (by decide) ?_
        have k := I.2 p y
        rw [P.2.2 p i hp k.2.1 z]
        cases x : v p i with
        | none => exact br_t rfl (nm_r (nI_1 i) (ih (i + 1) w (by omega) (by omega) J G (fu_Dn_k D (fun d _ hv => by rw [x] at hv; exact nomatch hv))))
        | some d =>
          have A := fu_Rsa W I J y z x
          refine br_f (fu_ne (by omega)) (nm_e (nm_r (nI_1 i) (ih (i + 1) _ (by omega) (by omega) A.1 (fun j hj => A.2.2.1 j (G j hj)) (fu_Dn_k (fu_Dn_m D A.2.2.1) (fun d2 _ hv => ?_)))))
          rw [x] at hv
          cases hv
          exact A.2.2.2
theorem fx_wv4 {post : Int32 → Prop} {s : Int32} (W : fu_WF cnt c t v) (P : fu_PC cnt c t v CA TA VA) (I : fu_Rs cnt c v s0 s)
    (K : ∀ w, fu_Rs cnt c v s0 w → (∀ i, bt s i = true → bt w i = true) → (∀ p f d, bt s p = true → f < 3 → v p f = some d → bt w d = true) → post w) :
    ∀ n p w, cnt - p < n → p ≤ cnt → fu_Rs cnt c v s0 w → (∀ i, bt s i = true → bt w i = true) → fu_Dn v s w p 0 → wX_withValuesOf_4 post s (nI cnt) mC pC LT TL CA TA VA SN SC ST SV PL PR IM n w (nI p) := by
  intro n
  induction n with
  | zero => intro p w h; omega
  | succ n ih =>
    intro p w h hp J G D
    have w1 := W.1
    rw [wX_withValuesOf_4]
    refine pk_le cnt p (fun z => ?_) (fun z => ?_)
    · exact K w J G (fun q f d hs hf hv => D q f d (Or.inl (by have := (I.2 q hs).1; omega)) hs hf hv)
    · exact ⟨4, fx_wv15 W P I z (fun w2 J2 G2 D2 => ih (p + 1) w2 (by omega) (by omega) J2 G2 D2) 4 0 w (by omega) (by omega) J G D⟩
theorem fx_wv {post : Int32 → Prop} {s : Int32} (W : fu_WF cnt c t v) (P : fu_PC cnt c t v CA TA VA) (I : fu_Rs cnt c v s0 s)
    (K : ∀ w, fu_Rs cnt c v s0 w → (∀ i, bt s i = true → bt w i = true) → (∀ p f d, bt s p = true → f < 3 → v p f = some d → bt w d = true) → post w) : wpX_withValuesOf post ((nI cnt), mC, pC, LT, TL, CA, TA, VA, SN, SC, ST, SV, PL, PR, IM) s := by
  unfold wpX_withValuesOf
  exact ⟨cnt + 1, fx_wv4 W P I K (cnt + 1) 0 s (by omega) (by omega) I (fun _ h => h) (fun q f d hq => by omega)⟩
theorem fx_re21 {post : Int32 → Prop} (W : fu_WF cnt c t v) (P : fu_PC cnt c t v CA TA VA) (K : ∀ s, fu_Rs cnt c v s0 s → fu_Rd v s → post (nI (fu_cd (bt s) 16))) :
    ∀ n i s, cnt - i < n → i ≤ cnt → fu_Rs cnt c v s0 s → fu_Rk v cnt s i → wX_reach_21 post (nI cnt) mC pC LT TL CA TA VA SN SC ST SV PL PR IM n s (nI i) := by
  intro n
  induction n with
  | zero => intro i s h; omega
  | succ n ih =>
    intro i s h hi I Q
    have w1 := W.1
    rw [wX_reach_21]
    refine pk_le cnt i (fun z => ?_) (fun z => ?_)
    · exact fx_cb (K s I (fu_Rke Q z))
    · exact fx_wv W P I (fun w J G A => nm_r (nI_1 i) (ih (i + 1) w (by omega) (by omega) J (fu_Rks I J G A Q)))
theorem fx_re {post : Int32 → Prop} {x : Nat} (W : fu_WF cnt c t v) (P : fu_PC cnt c t v CA TA VA) (hx : x < cnt) (K : ∀ s, fu_Rs cnt c v (c x) s → fu_Rd v s → post (nI (fu_cd (bt s) 16))) : wpX_reach post ((nI cnt), mC, pC, LT, TL, CA, TA, VA, SN, SC, ST, SV, PL, PR, IM) (nI x) := by
  unfold wpX_reach
  have w1 := W.1
  have w2 := W.2.1 x hx
  refine fx_no_y hx w1 (br_f (by decide) ⟨vp_in_nI (by omega) (by decide), ?_⟩)
  rw [nI_clamp (show x < 2 ^ 31 by omega), P.1 x hx]
  have I := fu_Rs0 W (x := c x) (by omega) w2.2
  exact nm_e ⟨cnt + 1, fx_re21 W P K (cnt + 1) 0 _ (by omega) (by omega) I (fu_Rk0 I)⟩
end
end
