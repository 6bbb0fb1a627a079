/-! Y: valueOf, takeValues, unify -/
section
variable {cn mk : Int32} {BE CL TY VL FR IG PE KE : Nat → Int32}
variable {cnt : Nat} {c t : Nat → Nat} {v : Nat → Nat → Option Nat} {lo : Nat → Int32} {n m : Nat}
theorem fy_vo2 {post : Int32 → Prop} {g : Nat → Nat} {x f : Nat} (W : fu_WF cnt c t v) (P : fu_PC cnt c t v CL TY VL) (hg : ∀ p, p < cnt → g p ≤ p) (F : ∀ p, p < cnt → FR p = nI (g p)) (hx : x < 16) (hf : f < 3) (K : ∀ o, fu_Vs cnt c v g x f o → post (fu_v o)) :
    ∀ k i, cnt - i < k → i ≤ cnt → (∀ p, p < i → g p = x → v (c p) f = none) → wY_valueOf_2 post (nI x) (nI f) (nI cnt) mk BE CL TY VL FR IG PE KE k (nI i) := by
  intro k
  induction k with
  | zero => intro i h; omega
  | succ k ih =>
    intro i hk hi D
    have w1 := W.1
    rw [wY_valueOf_2]
    refine pk_le cnt i (fun z => ?_) (fun z => ?_)
    · exact K none (Or.inl ⟨rfl, fun p hp => D p (by omega)⟩)
    · have w2 := W.2.1 i z
      have hci : c i < cnt := by omega
      have bg := hg i z
      refine ⟨vp_in_nI (by omega) (by decide), ?_⟩
      rw [nI_clamp (show i < 2 ^ 31 by omega), P.1 i z, F i z, fu_a2 (c i) f]
      refine ⟨vp_in_nI (by omega) (by decide), ?_⟩
      rw [nI_clamp (show 3 * c i + f < 2 ^ 31 by omega), P.2.2 (c i) f hci w2.2 hf]
      have S : (g i = x → v (c i) f = none) → wY_valueOf_2 post (nI x) (nI f) (nI cnt) mk BE CL TY VL FR IG PE KE k (nI (i + 1)) := fun hs =>
        ih (i + 1) (by omega) (by omega) (fun p hp => by
          by_cases w : p = i
          · rw [w]; exact hs
          · exact D p (by omega))
      refine nm_e ⟨vp_in_nI (by omega) (by decide), ?_⟩
      refine pk_eq (g i) x (fun y => ?_) (fun y => nm_r (nI_1 i) (S (fun h => absurd h y)))
      cases u : v (c i) f with
      | none => exact br_t rfl (nm_r (nI_1 i) (S (fun _ => u)))
      | some e =>
        have ke := W.2.2.2 (c i) f e hci w2.2 hf u
        refine br_f (fu_ne (by omega)) ⟨vp_in_nI (n := e) (by omega) (by decide), ?_⟩
        show post (FR (nI e).toNatClampNeg)
        rw [nI_clamp (show e < 2 ^ 31 by omega), F e ke.1]
        exact K (some (g e)) (Or.inr ⟨i, e, z, y, u, rfl⟩)
theorem fy_vo {post : Int32 → Prop} {g : Nat → Nat} {x f : Nat} (W : fu_WF cnt c t v) (P : fu_PC cnt c t v CL TY VL) (hg : ∀ p, p < cnt → g p ≤ p) (F : ∀ p, p < cnt → FR p = nI (g p)) (hx : x < 16) (hf : f < 3) (K : ∀ o, fu_Vs cnt c v g x f o → post (fu_v o)) : wpY_valueOf post ((nI cnt), mk, BE, CL, TY, VL, FR, IG, PE, KE) (nI x) (nI f) := by
  unfold wpY_valueOf
  exact ⟨cnt + 1, fy_vo2 W P hg F hx hf K (cnt + 1) 0 (by omega) (by omega) (fun p hp => by omega)⟩
theorem fy_tv36 {post : SY → Prop} (hc : cnt ≤ 16) : ∀ k i (VL : Nat → Int32), 3 * cnt - i < k → i ≤ 3 * cnt → post ((nI cnt), mk, BE, CL, TY, (fu_mp (fun j _ => PE j) i (3 * cnt) VL), FR, IG, PE, KE) → wY_takeValues_36 post (nI cnt) mk k (nI i) BE CL TY VL FR IG PE KE := by
  intro k
  induction k with
  | zero => intro i VL h; omega
  | succ k ih =>
    intro i VL hk hi K
    rw [wY_takeValues_36]
    rw [fu_3x cnt]
    refine pk_le (3 * cnt) i (fun z => ?_) (fun z => ?_)
    · rw [fu_mp_e z] at K
      exact K
    · refine ⟨vp_in_nI (by omega) (by decide), vp_in_nI (by omega) (by decide), ?_⟩
      rw [nI_clamp (show i < 2 ^ 31 by omega)]
      rw [← fu_mp_s (A := VL) z] at K
      exact nm_e (nm_r (nI_1 i) (ih (i + 1) _ (by omega) (by omega) K))
theorem fy_tv2 {post : SY → Prop} {g : Nat → Nat} {v1 : Nat → Nat → Option Nat} (W : fu_WF cnt c t v) (P : fu_PC cnt c t v CL TY VL) (hg : ∀ p, p < cnt → g p ≤ p) (F : ∀ p, p < cnt → FR p = nI (g p))
    (hv : ∀ p f o, p < cnt → g p = p → f < 3 → fu_Vs cnt c v g p f o → o = v1 p f)
    (K : ∀ VL PE : Nat → Int32, (∀ p f, p < cnt → g p = p → f < 3 → VL (3 * p + f) = fu_v (v1 p f)) → post ((nI cnt), mk, BE, CL, TY, VL, FR, IG, PE, KE)) :
    ∀ k i (PE : Nat → Int32), 3 * cnt - i < k → i ≤ 3 * cnt → (∀ p f, p < cnt → g p = p → f < 3 → 3 * p + f < i → PE (3 * p + f) = fu_v (v1 p f)) → wY_takeValues_2 post (nI cnt) mk k (nI i) BE CL TY VL FR IG PE KE := by
  intro k
  induction k with
  | zero => intro i PE h; omega
  | succ k ih =>
    intro i PE hk hi D
    have w1 := W.1
    rw [wY_takeValues_2]
    rw [fu_3x cnt]
    refine pk_le (3 * cnt) i (fun z => ?_) (fun z => ?_)
    · refine ⟨3 * cnt + 1, fy_tv36 w1 (3 * cnt + 1) 0 VL (by omega) (by omega) (K _ _ (fun p f hp ep hf => ?_))⟩
      rw [fu_mp_in (by omega) (by omega)]
      exact D p f hp ep hf (by omega)
    · refine ⟨fu_n3, fu_n3, ?_⟩
      rw [fu_r3 (show i < 2 ^ 31 by omega), fu_d3 (show i < 2 ^ 31 by omega)]
      refine fy_vo W P hg F (by omega) (by omega) (fun o S => ⟨vp_in_nI (by omega) (by decide), ?_⟩)
      rw [nI_clamp (show i < 2 ^ 31 by omega)]
      refine nm_e (nm_r (nI_1 i) (ih (i + 1) _ (by omega) (by omega) (fun p f hp ep hf hpf => ?_)))
      by_cases w : 3 * p + f = i
      · have e1 : i / 3 = p := by omega
        have e2 : i % 3 = f := by omega
        rw [e1, e2] at S
        rw [w, pk_us, hv p f o hp ep hf S]
      · rw [pk_un w]
        exact D p f hp ep hf (by omega)
theorem fy_un85 {post : Int32 → SY → Prop} {g t1 : Nat → Nat} (hc : cnt ≤ 16) (hg : ∀ p, p < cnt → g p ≤ p) (F : ∀ p, p < cnt → FR p = nI (g p)) (T : ∀ p, p < cnt → g p = p → IG p = nI (t1 p))
    (K : ∀ CL TY : Nat → Int32, (∀ p, p < cnt → CL p = nI (g p)) → (∀ p, p < cnt → g p = p → TY p = nI (t1 p)) → post (nI (fu_ld g cnt)) ((nI cnt), mk, BE, CL, TY, VL, FR, IG, PE, KE)) :
    ∀ k i (CL TY : Nat → Int32), cnt - i < k → i ≤ cnt → (∀ p, p < i → CL p = nI (g p)) → (∀ p, p < i → g p = p → TY p = nI (t1 p)) → wY_unify_85 post (nI cnt) mk k (nI i) BE CL TY VL FR IG PE KE := by
  intro k
  induction k with
  | zero => intro i CL TY h; omega
  | succ k ih =>
    intro i CL TY hk hi D1 D2
    rw [wY_unify_85]
    refine pk_le cnt i (fun z => ?_) (fun z => ?_)
    · exact fy_cl hc hg (fun p hp => D1 p (by omega)) (K CL TY (fun p hp => D1 p (by omega)) (fun p hp => D2 p (by omega)))
    · refine ⟨vp_in_nI (by omega) (by decide), vp_in_nI (by omega) (by decide), ?_⟩
      rw [nI_clamp (show i < 2 ^ 31 by omega)]
      refine nm_e ⟨vp_in_nI (by omega) (by decide), vp_in_nI (by omega) (by decide), nm_e (nm_r (nI_1 i) (ih (i + 1) _ _ (by omega) (by omega) (fun p hp => ?_) (fun p hp ep => ?_)))⟩
      · by_cases w : p = i
        · rw [w, pk_us, F i z]
        · rw [pk_un w]
          exact D1 p (by omega)
      · by_cases w : p = i
        · subst w
          rw [pk_us]
          exact T p z ep
        · rw [pk_un w]
          exact D2 p (by omega) ep
theorem fy_un32 {post : Int32 → SY → Prop} {g t1 : Nat → Nat} {v1 : Nat → Nat → Option Nat} (W : fu_WF cnt c t v) (P : fu_PC cnt c t v CL TY VL) (hl : ∀ t, t < 8 → BE t = lo t) (hg : ∀ p, p < cnt → g p ≤ p) (F : ∀ p, p < cnt → FR p = nI (g p))
    (ht : ∀ p s, p < cnt → g p = p → fu_Lo cnt c t lo g p s → fu_gr lo s = nI (t1 p))
    (hv : ∀ p f o, p < cnt → g p = p → f < 3 → fu_Vs cnt c v g p f o → o = v1 p f)
    (K : ∀ CL TY VL IG PE : Nat → Int32, fu_PC cnt g t1 v1 CL TY VL → post (nI (fu_ld g cnt)) ((nI cnt), mk, BE, CL, TY, VL, FR, IG, PE, KE)) :
    ∀ k i (IG : Nat → Int32), cnt - i < k → i ≤ cnt → (∀ p, p < i → g p = p → IG p = nI (t1 p)) → wY_unify_32 post (nI cnt) mk k (nI i) BE CL TY VL FR IG PE KE := by
  intro k
  induction k with
  | zero => intro i IG h; omega
  | succ k ih =>
    intro i IG hk hi D
    have w1 := W.1
    rw [wY_unify_32]
    refine pk_le cnt i (fun z => ?_) (fun z => ?_)
    · unfold wpY_takeValues
      refine ⟨3 * cnt + 1, fy_tv2 W P hg F hv (fun VL2 PE2 V => ⟨cnt + 1, ?_⟩) (3 * cnt + 1) 0 PE (by omega) (by omega) (fun p f _ _ _ h => by omega)⟩
      exact fy_un85 w1 hg F (fun p hp => D p (by omega)) (fun CL2 TY2 C1 C2 => K CL2 TY2 VL2 IG PE2 ⟨C1, C2, V⟩) (cnt + 1) 0 CL TY (by omega) (by omega) (fun p hp => by omega) (fun p hp => by omega)
    · refine fy_lo W P hl hg F (by omega) (fun s S => ⟨vp_in_nI (by omega) (by decide), ?_⟩)
      have bg := hg i z
      rw [nI_clamp (show i < 2 ^ 31 by omega), F i z]
      refine pk_eq (g i) i (fun y => fy_gr hl ⟨vp_in_nI (by omega) (by decide), nm_e (nm_r (nI_1 i) (ih (i + 1) _ (by omega) (by omega) (fun p hp ep => ?_)))⟩) (fun y => ⟨vp_in_nI (by omega) (by decide), nm_e (nm_r (nI_1 i) (ih (i + 1) _ (by omega) (by omega) (fun p hp ep => ?_)))⟩)
      · by_cases w : p = i
        · rw [w, pk_us]
          exact ht i s z y S
        · rw [pk_un w]
          exact D p (by omega) ep
      · by_cases w : p = i
        · rw [w] at ep
          exact absurd ep y
        · rw [pk_un w]
          exact D p (by omega) ep
end
