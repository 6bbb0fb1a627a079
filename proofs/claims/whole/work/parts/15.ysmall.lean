/-! Y: small methods, under -/
theorem fu_ors (x : Int32) : x ||| x = x := b_ext fun i _ => by rw [b_or, Bool.or_self]
theorem fu_nIb (k : Nat) (b : Bool) : nI k + fu_b b = nI (k + (if b = true then 1 else 0)) := by
  cases b with
  | true => exact nI_1 k
  | false => exact Int32.add_zero _
section
variable {cn mk : Int32} {BE CL TY VL FR IG PE KE : Nat → Int32}
theorem fy_ty_n {post : Int32 → Prop} {x : Int32} (h : x < 0 ∨ nI 8 ≤ x) (k : post 0) : wpY_isType post (cn, mk, BE, CL, TY, VL, FR, IG, PE, KE) x := by
  unfold wpY_isType
  by_cases z : x < 0
  · exact br_t z k
  · refine br_f z (br_t ?_ k)
    have h := h.resolve_left z
    obtain ⟨j, hj, rfl⟩ := nI_of z
    rw [nI_leI (by omega) hj] at h
    exact nI_lt (a := 7) (by omega) hj
theorem fy_ty_y {post : Int32 → Prop} {j : Nat} (h : j < 8) (k : post 1) : wpY_isType post (cn, mk, BE, CL, TY, VL, FR, IG, PE, KE) (nI j) := by
  unfold wpY_isType
  exact br_f (nI_pos (by omega)) (br_f (nI_nlt (b := j) (a := 7) (by omega) (by decide)) k)
theorem fy_no_n {post : Int32 → Prop} {x : Int32} (h : x < 0 ∨ cn ≤ x) (k : post 0) : wpY_isNode post (cn, mk, BE, CL, TY, VL, FR, IG, PE, KE) x := by
  unfold wpY_isNode
  by_cases z : x < 0
  · exact br_t z k
  · exact br_f z (br_t (h.resolve_left z) k)
theorem fy_no_y {post : Int32 → Prop} {j cnt : Nat} (h : j < cnt) (hc : cnt ≤ 16) (k : post 1) : wpY_isNode post ((nI cnt), mk, BE, CL, TY, VL, FR, IG, PE, KE) (nI j) := by
  unfold wpY_isNode
  exact br_f (nI_pos (by omega)) (br_f (nI_ge h (by omega)) k)
theorem fy_ha {post : Int32 → Prop} {x : Int32} {i : Nat} (hi : i < 32) (k : post (fu_b (bt x i))) : wpY_has post (cn, mk, BE, CL, TY, VL, FR, IG, PE, KE) x (nI i) := by
  unfold wpY_has
  dsimp only
  rw [fu_bit x hi]
  cases h : bt x i with
  | true =>
    rw [h] at k
    exact br_t rfl k
  | false =>
    rw [h] at k
    exact br_f (by decide) k
theorem fy_gr2 {post : Int32 → Prop} {x : Int32} : ∀ n d i, d < n → i + d = 8 → post (fu_sc (fun t => bt x t && decide (BE t &&& x = x)) d i) → wY_greatest_2 post x cn mk BE CL TY VL FR IG PE KE n (nI i) := by
  intro n
  induction n with
  | zero => intro d i h; omega
  | succ n ih =>
    intro d i h hi k
    rw [wY_greatest_2]
    refine pk_le 8 i (fun z => ?_) (fun z => ?_)
    · have e : d = 0 := by omega
      subst e
      exact k
    · obtain ⟨d, rfl⟩ : ∃ e, d = e + 1 := ⟨d - 1, by omega⟩
      refine fy_ha (by omega) ?_
      cases hb : bt x i with
      | false =>
        rw [fu_sc_f (by rw [hb]; rfl)] at k
        exact br_t rfl (nm_r (nI_1 i) (ih d (i + 1) (by omega) (by omega) k))
      | true =>
        refine br_f (by decide) ⟨vp_in_nI z (by decide), ?_⟩
        rw [nI_clamp (show i < 2 ^ 31 by omega)]
        refine br_c (fun y => ?_) (fun y => nm_r (nI_1 i) ?_)
        · rw [fu_sc_t (by rw [hb, decide_eq_true y]; rfl)] at k
          exact k
        · rw [fu_sc_f (by rw [hb, decide_eq_false y]; rfl)] at k
          exact ih d (i + 1) (by omega) (by omega) k
theorem fy_gr {post : Int32 → Prop} {lo : Nat → Int32} {x : Int32} (hl : ∀ t, t < 8 → BE t = lo t) (k : post (fu_gr lo x)) : wpY_greatest post (cn, mk, BE, CL, TY, VL, FR, IG, PE, KE) x := by
  unfold wpY_greatest
  refine ⟨9, fy_gr2 9 8 0 (by omega) (by omega) ?_⟩
  have e : fu_sc (fun t => bt x t && decide (BE t &&& x = x)) 8 0 = fu_gr lo x := fu_sc_cg 8 0 fun t _ ht => by rw [hl t (by omega)]
  rw [e]
  exact k
def fu_bad (lo : Nat → Int32) (a b : Nat) : Prop := (a ≠ b ∧ bt (lo a) b = true ∧ bt (lo b) a = true) ∨ (lo a &&& lo b ≠ 0 ∧ fu_gr lo (lo a &&& lo b) = -4)
theorem fy_fi63 {post J2 J10 : Int32 → Prop} {lo : Nat → Int32} {a b : Nat} {x : Int32} (hl : ∀ t, t < 8 → BE t = lo t) (ex : x = lo a &&& lo b) (K : ¬ (lo a &&& lo b ≠ 0 ∧ fu_gr lo (lo a &&& lo b) = -4) → J10 (nI (b + 1))) (K0 : (lo a &&& lo b ≠ 0 ∧ fu_gr lo (lo a &&& lo b) = -4) → post 0) : wY_isFit_63 post J2 J10 (nI a) (nI b) x cn mk BE CL TY VL FR IG PE KE := by
  subst ex
  unfold wY_isFit_63
  refine br_c (fun y => nm_r (nI_1 b) (K (fun w => w.1 y))) (fun y => fy_gr hl (br_c (fun w => K0 ⟨y, w⟩) (fun w => nm_r (nI_1 b) (K (fun u => w u.2)))))
theorem fy_fi10 {post J2 : Int32 → Prop} {lo : Nat → Int32} {a : Nat} (hl : ∀ t, t < 8 → BE t = lo t) (ha : a < 8) (K : (∀ b, b < 8 → ¬ fu_bad lo a b) → J2 (nI (a + 1))) (K0 : ¬ fu_okY lo → post 0) :
    ∀ n i, 8 - i < n → i ≤ 8 → (∀ b, b < i → ¬ fu_bad lo a b) → wY_isFit_10 post J2 (nI a) cn mk BE CL TY VL FR IG PE KE n (nI i) := by
  intro n
  induction n with
  | zero => intro i h; omega
  | succ n ih =>
    intro i h hi D
    rw [wY_isFit_10]
    refine pk_le 8 i (fun z => ?_) (fun z => ?_)
    · exact nm_r (nI_1 a) (K (fun b hb => D b (by omega)))
    · refine ⟨vp_in_nI ha (by decide), vp_in_nI z (by decide), ?_⟩
      rw [nI_clamp (show i < 2 ^ 31 by omega), nI_clamp (show a < 2 ^ 31 by omega), hl a ha, hl i z]
      have S : ¬ fu_bad lo a i → wY_isFit_10 post J2 (nI a) cn mk BE CL TY VL FR IG PE KE n (nI (i + 1)) := fun hs =>
        ih (i + 1) (by omega) (by omega) (fun b hb => by
          by_cases y : b = i
          · rw [y]; exact hs
          · exact D b (by omega))
      have N : fu_bad lo a i → post 0 := fun hb => K0 (fun ok => ok a i ha z hb)
      have M : ¬ (a ≠ i ∧ bt (lo a) i = true ∧ bt (lo i) a = true) → wY_isFit_63 post J2 (wY_isFit_10 post J2 (nI a) cn mk BE CL TY VL FR IG PE KE n) (nI a) (nI i) (lo a &&& lo i) cn mk BE CL TY VL FR IG PE KE := fun hm =>
        fy_fi63 hl rfl (fun hk => S (fun w => w.elim hm hk)) (fun hk => N (Or.inr hk))
      refine nm_e (pk_eq a i (fun y => M (fun w => w.1 y)) (fun y => ⟨vp_in_nI ha (by decide), fy_ha (by omega) ?_⟩))
      cases x : bt (lo a) i with
      | false => exact br_t rfl (M (fun w => by rw [x] at w; exact absurd w.2.1 (by decide)))
      | true =>
        refine br_f (by decide) ⟨vp_in_nI z (by decide), fy_ha (by omega) ?_⟩
        cases u : bt (lo i) a with
        | false => exact br_t rfl (M (fun w => by rw [u] at w; exact absurd w.2.2 (by decide)))
        | true => exact br_f (by decide) (N (Or.inl ⟨y, x, u⟩))
theorem fy_fi2 {post : Int32 → Prop} {lo : Nat → Int32} (hl : ∀ t, t < 8 → BE t = lo t) (K : fu_okY lo → post 1) (K0 : ¬ fu_okY lo → post 0) :
    ∀ n i, 8 - i < n → i ≤ 8 → (∀ a b, a < i → b < 8 → ¬ fu_bad lo a b) → wY_isFit_2 post cn mk BE CL TY VL FR IG PE KE n (nI i) := by
  intro n
  induction n with
  | zero => intro i h; omega
  | succ n ih =>
    intro i h hi D
    rw [wY_isFit_2]
    refine pk_le 8 i (fun z => ?_) (fun z => ?_)
    · exact K (fun a b ha hb => D a b (by omega) hb)
    · refine ⟨9, fy_fi10 hl z (fun hd => ?_) K0 9 0 (by omega) (by omega) (fun b hb => by omega)⟩
      refine ih (i + 1) (by omega) (by omega) (fun a b ha hb => ?_)
      by_cases y : a = i
      · subst y; exact hd b hb
      · exact D a b (by omega) hb
theorem fy_fi {post : Int32 → Prop} {lo : Nat → Int32} (hl : ∀ t, t < 8 → BE t = lo t) (K : fu_okY lo → post 1) (K0 : ¬ fu_okY lo → post 0) : wpY_isFit post (cn, mk, BE, CL, TY, VL, FR, IG, PE, KE) := by
  unfold wpY_isFit
  exact ⟨9, fy_fi2 hl K K0 9 0 (by omega) (by omega) (fun a b ha => by omega)⟩
def fu_px (la : Int32) (b : Nat) : Nat → Int32 → Int32 := fun _ x => if bt x b = true then x ||| la else x
theorem fy_pu2 {post : SY → Prop} {a b : Nat} {la : Int32} (ha : a < 8) (hb : b < 8) : ∀ n i (BE : Nat → Int32), 8 - i < n → i ≤ 8 → BE a = la → post (cn, mk, (fu_mp (fu_px la b) i 8 BE), CL, TY, VL, FR, IG, PE, KE) → wY_putUnder_2 post (nI a) (nI b) cn mk n (nI i) BE CL TY VL FR IG PE KE := by
  intro n
  induction n with
  | zero => intro i BE h; omega
  | succ n ih =>
    intro i BE h hi hla k
    rw [wY_putUnder_2]
    refine pk_le 8 i (fun z => ?_) (fun z => ?_)
    · rw [fu_mp_e z] at k
      exact k
    · refine ⟨vp_in_nI z (by decide), ?_⟩
      rw [nI_clamp (show i < 2 ^ 31 by omega), nI_clamp (show a < 2 ^ 31 by omega)]
      refine fy_ha (by omega) ?_
      cases y : bt (BE i) b with
      | true =>
        have e : fu_px la b i (BE i) = BE i ||| BE a := by
          rw [hla]
          exact if_pos y
        rw [← fu_mp_s (A := BE) z, e] at k
        refine br_f (by decide) ⟨vp_in_nI z (by decide), vp_in_nI ha (by decide), vp_in_nI z (by decide), nm_e (nm_r (nI_1 i) (ih (i + 1) _ (by omega) (by omega) ?_ k))⟩
        by_cases w : a = i
        · rw [← w, pk_us, hla, fu_ors]
        · rw [pk_un w, hla]
      | false =>
        rw [← fu_mp_k (show fu_px la b i (BE i) = BE i from if_neg (by rw [y]; decide))] at k
        exact br_t rfl (nm_r (nI_1 i) (ih (i + 1) _ (by omega) (by omega) hla k))
theorem fy_pu {post : SY → Prop} {a b : Nat} (ha : a < 8) (hb : b < 8) (k : post (cn, mk, (fu_mp (fu_px (BE a) b) 0 8 BE), CL, TY, VL, FR, IG, PE, KE)) : wpY_putUnder post (cn, mk, BE, CL, TY, VL, FR, IG, PE, KE) (nI a) (nI b) := by
  unfold wpY_putUnder
  exact ⟨9, fy_pu2 ha hb 9 0 BE (by omega) (by omega) rfl k⟩
theorem fy_sz4 {post : Int32 → Prop} {x : Int32} (k : post (nI (fu_cd (bt x) 16))) : ∀ n i, 16 - i < n → i ≤ 16 → wY_sizeOf_4 post x cn mk BE CL TY VL FR IG PE KE n (nI (fu_cd (bt x) i)) (nI i) := by
  intro n
  induction n with
  | zero => intro i h; omega
  | succ n ih =>
    intro i h hi
    rw [wY_sizeOf_4]
    refine pk_le 16 i (fun z => ?_) (fun z => ?_)
    · have e : i = 16 := by omega
      subst e
      exact k
    · rw [fu_bit x (show i < 32 by omega), fu_nIb]
      exact nm_e (nm_r (nI_1 i) (ih (i + 1) (by omega) (by omega)))
theorem fy_sz {post : Int32 → Prop} {x : Int32} (k : post (nI (fu_cd (bt x) 16))) : wpY_sizeOf post (cn, mk, BE, CL, TY, VL, FR, IG, PE, KE) x := by
  unfold wpY_sizeOf
  exact ⟨17, fy_sz4 k 17 0 (by omega) (by omega)⟩
theorem fy_un80 {post : Int32 → SY → Prop} : ∀ n i (BE : Nat → Int32), 8 - i < n → i ≤ 8 → post (-3) (cn, mk, (fu_mp (fun j _ => FR j) i 8 BE), CL, TY, VL, FR, IG, PE, KE) → wY_under_80 post cn mk n (nI i) BE CL TY VL FR IG PE KE := by
  intro n
  induction n with
  | zero => intro i BE h; omega
  | succ n ih =>
    intro i BE h hi k
    rw [wY_under_80]
    refine pk_le 8 i (fun z => ?_) (fun z => ?_)
    · rw [fu_mp_e z] at k
      exact k
    · refine ⟨vp_in_nI (by omega) (by decide), vp_in_nI z (by decide), ?_⟩
      rw [nI_clamp (show i < 2 ^ 31 by omega)]
      rw [← fu_mp_s (A := BE) z] at k
      exact nm_e (nm_r (nI_1 i) (ih (i + 1) _ (by omega) (by omega) k))
theorem fy_un30 {post : Int32 → SY → Prop} {lo : Nat → Int32} {a b : Nat} (hl : ∀ t, t < 8 → BE t = lo t) (ha : a < 8) (hb : b < 8)
    (K0 : ¬ fu_okY (fu_nw lo a b) → ∀ BE FR : Nat → Int32, (∀ t, t < 8 → BE t = lo t) → post (-3) (cn, mk, BE, CL, TY, VL, FR, IG, PE, KE))
    (K1 : fu_okY (fu_nw lo a b) → ∀ BE FR : Nat → Int32, (∀ t, t < 8 → BE t = fu_nw lo a b t) → post (nI (fu_cd (bt (fu_nw lo a b b)) 16)) (cn, mk, BE, CL, TY, VL, FR, IG, PE, KE)) :
    ∀ n i (FR : Nat → Int32), 8 - i < n → i ≤ 8 → (∀ j, j < i → FR j = BE j) → wY_under_30 post (nI a) (nI b) cn mk n (nI i) BE CL TY VL FR IG PE KE := by
  intro n
  induction n with
  | zero => intro i FR h; omega
  | succ n ih =>
    intro i FR h hi D
    rw [wY_under_30]
    refine pk_le 8 i (fun z => ?_) (fun z => ?_)
    · refine fy_pu ha hb ?_
      have e : ∀ t, t < 8 → fu_mp (fu_px (BE a) b) 0 8 BE t = fu_nw lo a b t := fun t ht => by
        rw [fu_mp_in (by omega) ht, hl t ht, hl a ha]
        rfl
      refine fy_fi e (fun ok => ?_) (fun ok => ?_)
      · refine br_f (by decide) ⟨vp_in_nI hb (by decide), ?_⟩
        rw [nI_clamp (show b < 2 ^ 31 by omega), e b hb]
        exact fy_sz (K1 ok _ _ e)
      · refine br_t rfl ⟨9, fy_un80 9 0 _ (by omega) (by omega) (K0 ok _ _ (fun t ht => ?_))⟩
        rw [fu_mp_in (by omega) ht, D t (by omega), hl t ht]
    · refine ⟨vp_in_nI z (by decide), vp_in_nI (by omega) (by decide), ?_⟩
      rw [nI_clamp (show i < 2 ^ 31 by omega)]
      refine nm_e (nm_r (nI_1 i) (ih (i + 1) _ (by omega) (by omega) (fun j hj => ?_)))
      by_cases w : j = i
      · rw [w, pk_us]
      · rw [pk_un w]
        exact D j (by omega)
theorem fy_under {post : Int32 → SY → Prop} {lo : Nat → Int32} {a b : Nat} (hl : ∀ t, t < 8 → BE t = lo t) (ha : a < 8) (hb : b < 8)
    (K0 : ¬ fu_okY (fu_nw lo a b) → ∀ BE FR : Nat → Int32, (∀ t, t < 8 → BE t = lo t) → post (-3) ((nI 0), mk, BE, CL, TY, VL, FR, IG, PE, KE))
    (K1 : fu_okY (fu_nw lo a b) → ∀ BE FR : Nat → Int32, (∀ t, t < 8 → BE t = fu_nw lo a b t) → post (nI (fu_cd (bt (fu_nw lo a b b)) 16)) ((nI 0), mk, BE, CL, TY, VL, FR, IG, PE, KE)) : wpY_under post ((nI 0), mk, BE, CL, TY, VL, FR, IG, PE, KE) (nI a) (nI b) := by
  unfold wpY_under
  exact fy_ty_y ha (br_f (by decide) (fy_ty_y hb (br_f (by decide) (br_t (by decide) ⟨9, fy_un30 hl ha hb K0 K1 9 0 FR (by omega) (by omega) (fun j hj => by omega)⟩))))
theorem fy_cl4 {post : Int32 → Prop} {cnt : Nat} {c : Nat → Nat} (hc : cnt ≤ 16) (hl : ∀ p, p < cnt → c p ≤ p) (hp : ∀ p, p < cnt → CL p = nI (c p)) (k : post (nI (fu_ld c cnt))) : ∀ n i, cnt - i < n → i ≤ cnt → wY_classes_4 post (nI cnt) mk BE CL TY VL FR IG PE KE n (nI (fu_ld c i)) (nI i) := by
  intro n
  induction n with
  | zero => intro i h; omega
  | succ n ih =>
    intro i h hi
    rw [wY_classes_4]
    refine pk_le cnt i (fun z => ?_) (fun z => ?_)
    · have e : i = cnt := by omega
      subst e
      exact k
    · refine ⟨vp_in_nI (by omega) (by decide), ?_⟩
      rw [nI_clamp (show i < 2 ^ 31 by omega), hp i z]
      have H := ih (i + 1) (by omega) (by omega)
      have hz := hl i z
      unfold fu_ld at H ⊢
      refine pk_eq (c i) i (fun y => ?_) (fun y => ?_)
      · rw [fu_cd_t (decide_eq_true y)] at H
        exact nm_r (nI_1 _) (nm_r (nI_1 _) H)
      · rw [fu_cd_f (decide_eq_false y)] at H
        exact nm_r (nI_1 _) H
theorem fy_cl {post : Int32 → Prop} {cnt : Nat} {c : Nat → Nat} (hc : cnt ≤ 16) (hl : ∀ p, p < cnt → c p ≤ p) (hp : ∀ p, p < cnt → CL p = nI (c p)) (k : post (nI (fu_ld c cnt))) : wpY_classes post ((nI cnt), mk, BE, CL, TY, VL, FR, IG, PE, KE) := by
  unfold wpY_classes
  exact ⟨cnt + 1, fy_cl4 hc hl hp k (cnt + 1) 0 (by omega) (by omega)⟩
end
