/-! X: subsumes -/
def fu_Pi (cnt : Nat) (im : Nat → Option Nat) (IM : Nat → Int32) : Prop := ∀ p, p < cnt → IM p = fu_v (im p)
theorem fu_Pi_b {cnt : Nat} {c : Nat → Nat} {im : Nat → Option Nat} (hc : cnt ≤ 16) (I : fu_Im cnt c im) (p : Nat) : ∀ k, im p = some k → k < 2 ^ 31 := by
  intro k hk
  have := (I p k hk).2.2.1
  omega
theorem fu_s1_n {v : Nat → Nat → Option Nat} {p h f : Nat} {im : Nat → Option Nat} (e : v p f = none) : fu_s1 v p h f im = some im := by
  unfold fu_s1
  rw [e]
theorem fu_s1_h {v : Nat → Nat → Option Nat} {p h f d : Nat} {im : Nat → Option Nat} (e : v p f = some d) (e2 : v h f = none) : fu_s1 v p h f im = none := by
  unfold fu_s1
  rw [e, e2]
theorem fu_s1_y {v : Nat → Nat → Option Nat} {p h f d q : Nat} {im : Nat → Option Nat} (e : v p f = some d) (e2 : v h f = some q) (z : im d = none ∨ im d = some q) : fu_s1 v p h f im = some (fun x => if x = d then some q else im x) := by
  unfold fu_s1
  rw [e, e2]
  exact if_pos z
theorem fu_s1_x {v : Nat → Nat → Option Nat} {p h f d q : Nat} {im : Nat → Option Nat} (e : v p f = some d) (e2 : v h f = some q) (z : ¬ (im d = none ∨ im d = some q)) : fu_s1 v p h f im = none := by
  unfold fu_s1
  rw [e, e2]
  exact if_neg z
theorem fu_s3_s {v : Nat → Nat → Option Nat} {p h k f : Nat} {im im' : Nat → Option Nat} (e : fu_s1 v p h f im = some im') : fu_s3 v p h (k + 1) f im = fu_s3 v p h k (f + 1) im' := by
  show (match fu_s1 v p h f im with | none => none | some im2 => fu_s3 v p h k (f + 1) im2) = _
  rw [e]
theorem fu_s3_n {v : Nat → Nat → Option Nat} {p h k f : Nat} {im : Nat → Option Nat} (e : fu_s1 v p h f im = none) : fu_s3 v p h (k + 1) f im = none := by
  show (match fu_s1 v p h f im with | none => none | some im2 => fu_s3 v p h k (f + 1) im2) = _
  rw [e]
theorem fu_sr_s {lo : Nat → Int32} {t : Nat → Nat} {v : Nat → Nat → Option Nat} {p k : Nat} {im im' : Nat → Option Nat} (e : fu_sp lo t v p im = some im') : fu_sr lo t v (k + 1) p im = fu_sr lo t v k (p + 1) im' := by
  show (match fu_sp lo t v p im with | none => none | some im2 => fu_sr lo t v k (p + 1) im2) = _
  rw [e]
theorem fu_sr_n {lo : Nat → Int32} {t : Nat → Nat} {v : Nat → Nat → Option Nat} {p k : Nat} {im : Nat → Option Nat} (e : fu_sp lo t v p im = none) : fu_sr lo t v (k + 1) p im = none := by
  show (match fu_sp lo t v p im with | none => none | some im2 => fu_sr lo t v k (p + 1) im2) = _
  rw [e]
theorem fu_sp_0 {lo : Nat → Int32} {t : Nat → Nat} {v : Nat → Nat → Option Nat} {p : Nat} {im : Nat → Option Nat} (e : im p = none) : fu_sp lo t v p im = some im := by
  unfold fu_sp
  rw [e]
theorem fu_sp_y {lo : Nat → Int32} {t : Nat → Nat} {v : Nat → Nat → Option Nat} {p h : Nat} {im : Nat → Option Nat} (e : im p = some h) (b : bt (lo (t p)) (t h) = true) : fu_sp lo t v p im = fu_s3 v p h 3 0 im := by
  unfold fu_sp
  rw [e]
  exact if_pos b
theorem fu_sp_x {lo : Nat → Int32} {t : Nat → Nat} {v : Nat → Nat → Option Nat} {p h : Nat} {im : Nat → Option Nat} (e : im p = some h) (b : bt (lo (t p)) (t h) = false) : fu_sp lo t v p im = none := by
  unfold fu_sp
  rw [e]
  exact if_neg (by rw [b]; decide)
theorem fu_it_s {F : (Nat → Option Nat) → Option (Nat → Option Nat)} {k : Nat} {s s' : Nat → Option Nat} (e : F s = some s') : fu_it F (k + 1) s = fu_it F k s' := by
  show (match F s with | none => none | some s' => fu_it F k s') = _
  rw [e]
theorem fu_it_n {F : (Nat → Option Nat) → Option (Nat → Option Nat)} {k : Nat} {s : Nat → Option Nat} (e : F s = none) : fu_it F (k + 1) s = none := by
  show (match F s with | none => none | some s' => fu_it F k s') = _
  rw [e]
/-- a new image -/
theorem fu_Pi_u {cnt d e : Nat} {im : Nat → Option Nat} {IM : Nat → Int32} (P : fu_Pi cnt im IM) : fu_Pi cnt (fun x => if x = d then some e else im x) (upd IM d (nI e)) := by
  intro p hp
  show upd IM d (nI e) p = fu_v (if p = d then some e else im p)
  by_cases z : p = d
  · rw [z, pk_us, if_pos rfl]
    rfl
  · rw [pk_un z, if_neg z]
    exact P p hp
theorem fu_Pi_k {cnt d e : Nat} {im : Nat → Option Nat} {IM : Nat → Int32} (P : fu_Pi cnt im IM) (h : im d = some e) : fu_Pi cnt (fun x => if x = d then some e else im x) IM := by
  intro p hp
  show IM p = fu_v (if p = d then some e else im p)
  by_cases z : p = d
  · rw [if_pos z, P p hp, z, h]
  · rw [if_neg z]
    exact P p hp
section
variable {nC mC pC : Int32} {LT TL CA TA VA SN SC ST SV PL PR IM : Nat → Int32}
variable {cnt : Nat} {c t : Nat → Nat} {v : Nat → Nat → Option Nat} {lo : Nat → Int32}
theorem fx_gi {post : Int32 → SX → Prop} {im : Nat → Option Nat} {d e : Nat} (hc : cnt ≤ 16) (I : fu_Im cnt c im) (P : fu_Pi cnt im IM) (hd : d < cnt) (he : e < cnt)
    (K1 : (im d = none ∨ im d = some e) → ∀ IM : Nat → Int32, fu_Pi cnt (fun x => if x = d then some e else im x) IM → post 1 (nC, mC, pC, LT, TL, CA, TA, VA, SN, SC, ST, SV, PL, PR, IM)) (K0 : ¬ (im d = none ∨ im d = some e) → post 0 (nC, mC, pC, LT, TL, CA, TA, VA, SN, SC, ST, SV, PL, PR, IM)) : wpX_giveImage post (nC, mC, pC, LT, TL, CA, TA, VA, SN, SC, ST, SV, PL, PR, IM) (nI d) (nI e) := by
  unfold wpX_giveImage
  refine br_f (fu_ne (by omega)) ⟨vp_in_nI (by omega) (by decide), ?_⟩
  rw [nI_clamp (show d < 2 ^ 31 by omega), P d hd]
  cases x : im d with
  | none =>
    refine br_t rfl ⟨vp_in_nI (by omega) (by decide), nm_e ?_⟩
    unfold wX_giveImage_26
    refine ⟨vp_in_nI (by omega) (by decide), ?_⟩
    rw [nI_clamp (show d < 2 ^ 31 by omega), pk_us]
    exact br_t rfl (K1 (Or.inl x) _ (fu_Pi_u P))
  | some q =>
    have hq := fu_Pi_b hc I d q x
    refine br_f (fu_ne hq) ?_
    unfold wX_giveImage_26
    refine ⟨vp_in_nI (by omega) (by decide), ?_⟩
    rw [nI_clamp (show d < 2 ^ 31 by omega), P d hd, x]
    refine pk_eq q e (fun z => ?_) (fun z => ?_)
    · subst z
      exact K1 (Or.inr x) IM (fu_Pi_k P x)
    · refine K0 (fun w => ?_)
      rcases w with w | w
      · rw [x] at w; exact nomatch w
      · rw [x] at w; exact z (Option.some.inj w)
theorem fx_if30 {post : Int32 → SX → Prop} {p h : Nat} (W : fu_WF cnt c t v) (Q : fu_PC cnt c t v CA TA VA) (hp : p < cnt) (ep : c p = p) (hh : h < cnt) (eh : c h = h) :
    ∀ n k i (im : Nat → Option Nat) (IM : Nat → Int32), k < n → i + k = 3 → fu_Im cnt c im → fu_Pi cnt im IM → (fu_s3 v p h k i im = none → ∀ IM : Nat → Int32, post 0 ((nI cnt), mC, pC, LT, TL, CA, TA, VA, SN, SC, ST, SV, PL, PR, IM)) →
      (∀ im', fu_s3 v p h k i im = some im' → ∀ IM : Nat → Int32, fu_Pi cnt im' IM → post 1 ((nI cnt), mC, pC, LT, TL, CA, TA, VA, SN, SC, ST, SV, PL, PR, IM)) → wX_imageFits_30 post (nI p) (nI h) n (nI i) (nI cnt) mC pC LT TL CA TA VA SN SC ST SV PL PR IM := by
  intro n
  induction n with
  | zero => intro k i im IM h; omega
  | succ n ih =>
    intro k i im IM hk hi I P K0 K1
    have w1 := W.1
    rw [wX_imageFits_30]
    refine pk_le 3 i (fun z => ?_) (fun z => ?_)
    · have e : k = 0 := by omega
      subst e
      exact K1 im rfl IM P
    · obtain ⟨k, rfl⟩ : ∃ e, k = e + 1 := ⟨k - 1, by omega⟩
      rw [fu_a1 p i, fu_a1 h i]
      refine ⟨vp_in_nI (by omega) (by decide), ?_⟩
      rw [nI_clamp (show 3 * p + i < 2 ^ 31 by omega), nI_clamp (show 3 * h + i < 2 ^ 31 by omega), Q.2.2 p i hp ep z, Q.2.2 h i hh eh z]
      refine nm_e ⟨vp_in_nI (by omega) (by decide), nm_e ?_⟩
      have go : ∀ im' (IM : Nat → Int32), fu_s1 v p h i im = some im' → fu_Pi cnt im' IM → wX_imageFits_30 post (nI p) (nI h) n (nI (i + 1)) (nI cnt) mC pC LT TL CA TA VA SN SC ST SV PL PR IM := by
        intro im' IM e P'
        rw [fu_s3_s e] at K0 K1
        exact ih k (i + 1) im' IM (by omega) (by omega) (fu_s1_ok W I hp ep hh eh z e).1 P' K0 K1
      cases x : v p i with
      | none => exact br_t rfl (nm_r (nI_1 i) (go im IM (fu_s1_n x) P))
      | some d =>
        have kd := W.2.2.2 p i d hp ep z x
        refine br_f (fu_ne (by omega)) ?_
        cases y : v h i with
        | none =>
          rw [fu_s3_n (fu_s1_h x y)] at K0
          unfold wpX_giveImage
          exact br_t rfl (br_t rfl (K0 rfl IM))
        | some e =>
          have ke := W.2.2.2 h i e hh eh z y
          refine fx_gi w1 I P kd.1 ke.1 (fun zz IM2 P2 => br_f (by decide) (nm_r (nI_1 i) (go _ IM2 (fu_s1_y x y zz) P2))) (fun zz => br_t rfl ?_)
          rw [fu_s3_n (fu_s1_x x y zz)] at K0
          exact K0 rfl IM
theorem fx_if {post : Int32 → SX → Prop} {p h : Nat} {im : Nat → Option Nat} (W : fu_WF cnt c t v) (Q : fu_PC cnt c t v CA TA VA) (hl : ∀ t, t < 8 → LT t = lo t) (I : fu_Im cnt c im) (P : fu_Pi cnt im IM) (e : im p = some h)
    (K0 : fu_sp lo t v p im = none → ∀ IM : Nat → Int32, post 0 ((nI cnt), mC, pC, LT, TL, CA, TA, VA, SN, SC, ST, SV, PL, PR, IM)) (K1 : ∀ im', fu_sp lo t v p im = some im' → ∀ IM : Nat → Int32, fu_Pi cnt im' IM → post 1 ((nI cnt), mC, pC, LT, TL, CA, TA, VA, SN, SC, ST, SV, PL, PR, IM)) : wpX_imageFits post ((nI cnt), mC, pC, LT, TL, CA, TA, VA, SN, SC, ST, SV, PL, PR, IM) (nI p) := by
  obtain ⟨hp, ep, hh, eh⟩ := I p h e
  have w1 := W.1
  have t1 := W.2.2.1 p hp ep
  have t2 := W.2.2.1 h hh eh
  unfold wpX_imageFits
  refine ⟨vp_in_nI (by omega) (by decide), ?_⟩
  rw [nI_clamp (show p < 2 ^ 31 by omega), P p hp, e]
  refine nm_e ⟨vp_in_nI (n := h) (by omega) (by decide), vp_in_nI (by omega) (by decide), ?_⟩
  show wpX_liesUnder _ _ (TA (nI h).toNatClampNeg) _
  rw [nI_clamp (show h < 2 ^ 31 by omega), Q.2.1 p hp ep, Q.2.1 h hh eh]
  refine fx_lu t2 t1 ?_
  rw [hl (t p) t1]
  cases y : bt (lo (t p)) (t h) with
  | false =>
    rw [fu_sp_x e y] at K0
    exact br_t rfl (K0 rfl IM)
  | true =>
    rw [fu_sp_y e y] at K0 K1
    exact br_f (by decide) ⟨4, fx_if30 W Q hp ep hh eh 4 3 0 im IM (by omega) (by omega) I P K0 K1⟩
theorem fx_ci2 {post : Int32 → SX → Prop} (W : fu_WF cnt c t v) (Q : fu_PC cnt c t v CA TA VA) (hl : ∀ t, t < 8 → LT t = lo t) :
    ∀ n k p (im : Nat → Option Nat) (IM : Nat → Int32), k < n → p + k = cnt → fu_Im cnt c im → fu_Pi cnt im IM → (fu_sr lo t v k p im = none → ∀ IM : Nat → Int32, post 0 ((nI cnt), mC, pC, LT, TL, CA, TA, VA, SN, SC, ST, SV, PL, PR, IM)) →
      (∀ im', fu_sr lo t v k p im = some im' → ∀ IM : Nat → Int32, fu_Pi cnt im' IM → post 1 ((nI cnt), mC, pC, LT, TL, CA, TA, VA, SN, SC, ST, SV, PL, PR, IM)) → wX_carryImagesOn_2 post n (nI p) (nI cnt) mC pC LT TL CA TA VA SN SC ST SV PL PR IM := by
  intro n
  induction n with
  | zero => intro k p im IM h; omega
  | succ n ih =>
    intro k p im IM hk hp I P K0 K1
    have w1 := W.1
    rw [wX_carryImagesOn_2]
    refine pk_le cnt p (fun z => ?_) (fun z => ?_)
    · have e : k = 0 := by omega
      subst e
      exact K1 im rfl IM P
    · obtain ⟨k, rfl⟩ : ∃ e, k = e + 1 := ⟨k - 1, by omega⟩
      refine ⟨vp_in_nI (by omega) (by decide), ?_⟩
      rw [nI_clamp (show p < 2 ^ 31 by omega), P p z]
      cases x : im p with
      | none =>
        rw [fu_sr_s (fu_sp_0 x)] at K0 K1
        exact br_t rfl (nm_r (nI_1 p) (ih k (p + 1) im IM (by omega) (by omega) I P K0 K1))
      | some h =>
        have hh := fu_Pi_b w1 I p h x
        refine br_f (fu_ne hh) (fx_if W Q hl I P x (fun e IM2 => ?_) (fun im' e IM2 P2 => ?_))
        · rw [fu_sr_n e] at K0
          exact br_t rfl (K0 rfl IM2)
        · rw [fu_sr_s e] at K0 K1
          exact br_f (by decide) (nm_r (nI_1 p) (ih k (p + 1) im' IM2 (by omega) (by omega) (fu_sp_ok W I e).1 P2 K0 K1))
theorem fx_su59 {post : Int32 → SX → Prop} (W : fu_WF cnt c t v) (Q : fu_PC cnt c t v CA TA VA) (hl : ∀ t, t < 8 → LT t = lo t) :
    ∀ n k i (im : Nat → Option Nat) (IM : Nat → Int32), k < n → i + k = cnt → fu_Im cnt c im → fu_Pi cnt im IM → (∀ IM : Nat → Int32, post (fu_b (fu_it (fu_sr lo t v cnt 0) k im).isSome) ((nI cnt), mC, pC, LT, TL, CA, TA, VA, SN, SC, ST, SV, PL, PR, IM)) → wX_subsumes_59 post n (nI i) (nI cnt) mC pC LT TL CA TA VA SN SC ST SV PL PR IM := by
  intro n
  induction n with
  | zero => intro k i im IM h; omega
  | succ n ih =>
    intro k i im IM hk hi I P K
    have w1 := W.1
    rw [wX_subsumes_59]
    refine pk_le cnt i (fun z => ?_) (fun z => ?_)
    · have e : k = 0 := by omega
      subst e
      exact K IM
    · obtain ⟨k, rfl⟩ : ∃ e, k = e + 1 := ⟨k - 1, by omega⟩
      unfold wpX_carryImagesOn
      refine ⟨cnt + 1, fx_ci2 W Q hl (cnt + 1) cnt 0 im IM (by omega) (by omega) I P (fun e IM2 => ?_) (fun im' e IM2 P2 => ?_)⟩
      · rw [fu_it_n e] at K
        exact br_t rfl (K IM2)
      · rw [fu_it_s e] at K
        exact br_f (by decide) (nm_r (nI_1 i) (ih k (i + 1) im' IM2 (by omega) (by omega) (fu_sr_ok W cnt 0 im im' I e).1 P2 K))
/-- the first images -/
def fu_i0 (x y : Nat) : Nat → Option Nat := fun p => if p = x then some y else none
theorem fu_i0_ok {x y : Nat} (hx : x < cnt) (ex : c x = x) (hy : y < cnt) (ey : c y = y) : fu_Im cnt c (fu_i0 x y) := by
  intro p h e
  unfold fu_i0 at e
  by_cases z : p = x
  · rw [if_pos z] at e
    cases e
    rw [z]
    exact ⟨hx, ex, hy, ey⟩
  · rw [if_neg z] at e
    exact nomatch e
theorem fx_su20 {post : Int32 → SX → Prop} {x y : Nat} (W : fu_WF cnt c t v) (Q : fu_PC cnt c t v CA TA VA) (hl : ∀ t, t < 8 → LT t = lo t) (hx : x < cnt) (hy : y < cnt)
    (K : ∀ IM : Nat → Int32, post (fu_b (fu_it (fu_sr lo t v cnt 0) cnt (fu_i0 (c x) (c y))).isSome) ((nI cnt), mC, pC, LT, TL, CA, TA, VA, SN, SC, ST, SV, PL, PR, IM)) :
    ∀ n i (IM : Nat → Int32), 16 - i < n → i ≤ 16 → (∀ p, p < i → IM p = -4) → wX_subsumes_20 post (nI x) (nI y) (nI cnt) mC pC n (nI i) LT TL CA TA VA SN SC ST SV PL PR IM := by
  intro n
  induction n with
  | zero => intro i IM h; omega
  | succ n ih =>
    intro i IM h hi D
    have w1 := W.1
    have wx := W.2.1 x hx
    have wy := W.2.1 y hy
    rw [wX_subsumes_20]
    refine pk_le 16 i (fun z => ?_) (fun z => ?_)
    · refine ⟨vp_in_nI (by omega) (by decide), vp_in_nI (by omega) (by decide), ?_⟩
      rw [nI_clamp (show x < 2 ^ 31 by omega), nI_clamp (show y < 2 ^ 31 by omega), Q.1 x hx, Q.1 y hy]
      refine ⟨vp_in_nI (by omega) (by decide), ?_⟩
      rw [nI_clamp (show c x < 2 ^ 31 by omega)]
      refine nm_e ⟨cnt + 1, fx_su59 W Q hl (cnt + 1) cnt 0 (fu_i0 (c x) (c y)) _ (by omega) (by omega) (fu_i0_ok (by omega) wx.2 (by omega) wy.2) (fun p hp => ?_) K⟩
      unfold fu_i0
      by_cases w : p = c x
      · rw [w, pk_us, if_pos rfl]
        rfl
      · rw [pk_un w, if_neg w, D p (by omega)]
        rfl
    · refine ⟨vp_in_nI z (by decide), ?_⟩
      rw [nI_clamp (show i < 2 ^ 31 by omega)]
      refine nm_e (nm_r (nI_1 i) (ih (i + 1) _ (by omega) (by omega) (fun p hp => ?_)))
      by_cases w : p = i
      · rw [w, pk_us]
      · rw [pk_un w]
        exact D p (by omega)
theorem fx_su {post : Int32 → SX → Prop} {x y : Nat} (W : fu_WF cnt c t v) (Q : fu_PC cnt c t v CA TA VA) (hl : ∀ t, t < 8 → LT t = lo t) (hx : x < cnt) (hy : y < cnt)
    (K : ∀ IM : Nat → Int32, post (fu_b (fu_it (fu_sr lo t v cnt 0) cnt (fu_i0 (c x) (c y))).isSome) ((nI cnt), mC, pC, LT, TL, CA, TA, VA, SN, SC, ST, SV, PL, PR, IM)) : wpX_subsumes post ((nI cnt), mC, pC, LT, TL, CA, TA, VA, SN, SC, ST, SV, PL, PR, IM) (nI x) (nI y) := by
  unfold wpX_subsumes
  exact fx_no_y hx W.1 (br_f (by decide) (fx_no_y hy W.1 (br_f (by decide) ⟨17, fx_su20 W Q hl hx hy K 17 0 IM (by omega) (by omega) (fun p hp => by omega)⟩)))
end
