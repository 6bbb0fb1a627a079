/-! Y: reach, subsumes -/
section
variable {cn mk : Int32} {BE CL TY VL FR IG PE KE : Nat → Int32}
variable {cnt : Nat} {c t : Nat → Nat} {v : Nat → Nat → Option Nat} {lo : Nat → Int32} {s0 : Nat}
/-- what has been looked at, by places -/
def fu_Dp (v : Nat → Nat → Option Nat) (s w : Int32) (i : Nat) : Prop := ∀ q f d, 3 * q + f < i → bt s q = true → f < 3 → v q f = some d → bt w d = true
theorem fy_re30 {post : Int32 → Prop} {J21 : Int32 → Int32 → Prop} {s : Int32} {r : Nat} (W : fu_WF cnt c t v) (P : fu_PC cnt c t v CL TY VL) (I : fu_Rs cnt c v s0 s)
    (K : ∀ w, fu_Rs cnt c v s0 w → (∀ i, bt s i = true → bt w i = true) → (∀ p f d, bt s p = true → f < 3 → v p f = some d → bt w d = true) → J21 w (nI (r + 1))) :
    ∀ n i w, 3 * cnt - i < n → i ≤ 3 * cnt → fu_Rs cnt c v s0 w → (∀ i, bt s i = true → bt w i = true) → fu_Dp v s w i → wY_reach_30 post J21 (nI r) (nI cnt) mk BE CL TY VL FR IG PE KE n w (nI i) := by
  intro n
  induction n with
  | zero => intro i w h; omega
  | succ n ih =>
    intro i w h hi J G D
    have w1 := W.1
    rw [wY_reach_30]
    rw [fu_3x cnt]
    refine pk_le (3 * cnt) i (fun z => ?_) (fun z => ?_)
    · refine nm_r (nI_1 r) (K w J G (fun p f d hs hf hv => D p f d ?_ hs hf hv))
      have := (I.2 p hs).1
      omega
    · refine ⟨fu_n3, ?_⟩
      rw [fu_d3 (show i < 2 ^ 31 by omega)]
      have ei : 3 * (i / 3) + i % 3 = i := by omega
      have S : (∀ d, bt s (i / 3) = true → v (i / 3) (i % 3) = some d → bt w d = true) → wY_reach_30 post J21 (nI r) (nI cnt) mk BE CL TY VL FR IG PE KE n w (nI (i + 1)) := fun hs => by
        refine ih (i + 1) w (by omega) (by omega) J G (fun q f d hq hb hf hv => ?_)
        by_cases u : 3 * q + f = i
        · have e1 : i / 3 = q := by omega
          have e2 : i % 3 = f := by omega
          rw [e1, e2] at hs
          exact hs d hb hv
        · exact D q f d (by omega) hb hf hv
      refine fy_ha (by omega) ?_
      cases y : bt w (i / 3) with
      | false =>
        refine br_t rfl (nm_r (nI_1 i) (S (fun d hb _ => ?_)))
        rw [G _ hb] at y
        exact absurd y (by decide)
      | true =>
        refine br_f (by decide) ⟨vp_in_nI (by omega) (by decide), ?_⟩
        have k := J.2 _ y
        have ev : VL i = fu_v (v (i / 3) (i % 3)) := by
          have := P.2.2 (i / 3) (i % 3) k.1 k.2.1 (by omega)
          rw [ei] at this
          exact this
        rw [nI_clamp (show i < 2 ^ 31 by omega), ev]
        cases x : v (i / 3) (i % 3) with
        | none => exact br_t rfl (nm_r (nI_1 i) (S (fun d _ hv => by rw [x] at hv; exact nomatch hv)))
        | some d =>
          have kd := W.2.2.2 (i / 3) (i % 3) d k.1 k.2.1 (by omega) x
          have A := fu_Rsa W J J y (by omega) x
          refine br_f (fu_ne (by omega)) ⟨vp_in_nI (by omega) (by decide), nm_e (nm_r (nI_1 i) (ih (i + 1) _ (by omega) (by omega) A.1 (fun j hj => A.2.2.1 j (G j hj)) (fun q f d2 hq hb hf hv => ?_)))⟩
          by_cases u : 3 * q + f = i
          · have e1 : i / 3 = q := by omega
            have e2 : i % 3 = f := by omega
            rw [e1, e2, hv] at x
            cases x
            exact A.2.2.2
          · exact A.2.2.1 d2 (D q f d2 (by omega) hb hf hv)
theorem fy_re21 {post : Int32 → Prop} (W : fu_WF cnt c t v) (P : fu_PC cnt c t v CL TY VL) (K : ∀ s, fu_Rs cnt c v s0 s → fu_Rd v s → post (nI (fu_cd (bt s) 16))) :
    ∀ n i s, 16 - i < n → i ≤ 16 → fu_Rs cnt c v s0 s → fu_Rk v cnt s i → wY_reach_21 post (nI cnt) mk BE CL TY VL FR IG PE KE n s (nI i) := by
  intro n
  induction n with
  | zero => intro i s h; omega
  | succ n ih =>
    intro i s h hi I Q
    have w1 := W.1
    rw [wY_reach_21]
    refine pk_le 16 i (fun z => ?_) (fun z => ?_)
    · exact fy_sz (K s I (fu_Rke Q (by omega)))
    · exact ⟨3 * cnt + 1, fy_re30 W P I (fun w J G A => ih (i + 1) w (by omega) (by omega) J (fu_Rks I J G A Q)) (3 * cnt + 1) 0 s (by omega) (by omega) I (fun _ h => h) (fun q f d hq => by omega)⟩
theorem fy_re {post : Int32 → Prop} {x : Nat} (W : fu_WF cnt c t v) (P : fu_PC cnt c t v CL TY VL) (hx : x < cnt) (K : ∀ s, fu_Rs cnt c v (c x) s → fu_Rd v s → post (nI (fu_cd (bt s) 16))) : wpY_reach post ((nI cnt), mk, BE, CL, TY, VL, FR, IG, PE, KE) (nI x) := by
  unfold wpY_reach
  have w1 := W.1
  have w2 := W.2.1 x hx
  refine fy_no_y hx w1 (br_f (by decide) ⟨vp_in_nI (by omega) (by decide), ?_⟩)
  rw [nI_clamp (show x < 2 ^ 31 by omega), P.1 x hx]
  have I := fu_Rs0 W (x := c x) (by omega) w2.2
  exact nm_e ⟨17, fy_re21 W P K 17 0 _ (by omega) (by omega) I (fu_Rk0 I)⟩
theorem fy_co35 {post : Int32 → SY → Prop} {p h : Nat} (W : fu_WF cnt c t v) (Q : fu_PC cnt c t v CL TY VL) (hp : p < cnt) (ep : c p = p) (hh : h < cnt) (eh : c h = h) :
    ∀ n k i (im : Nat → Option Nat) (IG : Nat → Int32), k < n → i + k = 3 → fu_Im cnt c im → fu_Pi cnt im IG → (fu_s3 v p h k i im = none → ∀ IG : Nat → Int32, post 0 (cn, mk, BE, CL, TY, VL, FR, IG, PE, KE)) →
      (∀ im', fu_s3 v p h k i im = some im' → ∀ IG : Nat → Int32, fu_Pi cnt im' IG → post 1 (cn, mk, BE, CL, TY, VL, FR, IG, PE, KE)) → wY_carryOn_35 post (nI p) (nI h) cn mk n (nI i) BE CL TY VL FR IG PE KE := by
  intro n
  induction n with
  | zero => intro k i im IG h; omega
  | succ n ih =>
    intro k i im IG hk hi I P K0 K1
    have w1 := W.1
    rw [wY_carryOn_35]
    refine pk_le 3 i (fun z => ?_) (fun z => ?_)
    · have e : k = 0 := by omega
      subst e
      exact K1 im rfl IG P
    · obtain ⟨k, rfl⟩ : ∃ e, k = e + 1 := ⟨k - 1, by omega⟩
      rw [fu_a2 p i, fu_a2 h i]
      refine ⟨vp_in_nI (by omega) (by decide), ?_⟩
      rw [nI_clamp (show 3 * p + i < 2 ^ 31 by omega), nI_clamp (show 3 * h + i < 2 ^ 31 by omega), Q.2.2 p i hp ep z, Q.2.2 h i hh eh z]
      refine nm_e ⟨vp_in_nI (by omega) (by decide), nm_e ?_⟩
      have go : ∀ im' (IG : Nat → Int32), fu_s1 v p h i im = some im' → fu_Pi cnt im' IG → wY_carryOn_35 post (nI p) (nI h) cn mk n (nI (i + 1)) BE CL TY VL FR IG PE KE := by
        intro im' IG e P'
        rw [fu_s3_s e] at K0 K1
        exact ih k (i + 1) im' IG (by omega) (by omega) (fu_s1_ok W I hp ep hh eh z e).1 P' K0 K1
      cases x : v p i with
      | none => exact br_t rfl (nm_r (nI_1 i) (go im IG (fu_s1_n x) P))
      | some d =>
        have kd := W.2.2.2 p i d hp ep z x
        refine br_f (fu_ne (by omega)) ?_
        cases y : v h i with
        | none =>
          rw [fu_s3_n (fu_s1_h x y)] at K0
          exact br_t rfl (K0 rfl IG)
        | some e =>
          have ke := W.2.2.2 h i e hh eh z y
          refine br_f (fu_ne (by omega)) ⟨vp_in_nI (n := d) (by omega) (by decide), ?_⟩
          have cd : (fu_v (some d)).toNatClampNeg = d := nI_clamp (show d < 2 ^ 31 by omega)
          rw [cd, P d kd.1]
          cases u : im d with
          | none =>
            refine br_t rfl ⟨vp_in_nI (n := d) (by omega) (by decide), nm_e (nm_r (nI_1 i) (go _ _ (fu_s1_y x y (Or.inl u)) (fu_Pi_u P)))⟩
          | some q =>
            have hq := fu_Pi_b w1 I d q u
            refine br_f (fu_ne hq) ⟨vp_in_nI (n := d) (by omega) (by decide), ?_⟩
            refine pk_eq q e (fun w => ⟨vp_in_nI (n := d) (by omega) (by decide), nm_e (nm_r (nI_1 i) (go _ _ (fu_s1_y x y (Or.inr (by rw [u, w]))) (fu_Pi_u P)))⟩) (fun w => ?_)
            rw [fu_s3_n (fu_s1_x x y (fun w2 => by
              rcases w2 with w2 | w2
              · rw [u] at w2; exact nomatch w2
              · rw [u] at w2; exact w (Option.some.inj w2)))] at K0
            exact K0 rfl IG
theorem fy_co {post : Int32 → SY → Prop} {p h : Nat} {im : Nat → Option Nat} (W : fu_WF cnt c t v) (Q : fu_PC cnt c t v CL TY VL) (hl : ∀ t, t < 8 → BE t = lo t) (I : fu_Im cnt c im) (P : fu_Pi cnt im IG) (e : im p = some h)
    (K0 : fu_sp lo t v p im = none → ∀ IG : Nat → Int32, post 0 (cn, mk, BE, CL, TY, VL, FR, IG, PE, KE)) (K1 : ∀ im', fu_sp lo t v p im = some im' → ∀ IG : Nat → Int32, fu_Pi cnt im' IG → post 1 (cn, mk, BE, CL, TY, VL, FR, IG, PE, KE)) : wpY_carryOn post (cn, mk, BE, CL, TY, VL, FR, IG, PE, KE) (nI p) := by
  obtain ⟨hp, ep, hh, eh⟩ := I p h e
  have w1 := W.1
  have t1 := W.2.2.1 p hp ep
  have t2 := W.2.2.1 h hh eh
  unfold wpY_carryOn
  refine ⟨vp_in_nI (by omega) (by decide), ?_⟩
  rw [nI_clamp (show p < 2 ^ 31 by omega), P p hp, e, Q.2.1 p hp ep, nI_clamp (show t p < 2 ^ 31 by omega), hl (t p) t1]
  refine nm_e ⟨vp_in_nI (by omega) (by decide), vp_in_nI t1 (by decide), vp_in_nI (n := h) (by omega) (by decide), ?_⟩
  have ch : (fu_v (some h)).toNatClampNeg = h := nI_clamp (show h < 2 ^ 31 by omega)
  rw [ch, Q.2.1 h hh eh]
  refine fy_ha (by omega) ?_
  cases y : bt (lo (t p)) (t h) with
  | false =>
    rw [fu_sp_x e y] at K0
    exact br_t rfl (K0 rfl IG)
  | true =>
    rw [fu_sp_y e y] at K0 K1
    exact br_f (by decide) ⟨4, fy_co35 W Q hp ep hh eh 4 3 0 im IG (by omega) (by omega) I P K0 K1⟩
theorem fy_su70 {post : Int32 → SY → Prop} {J61 : Int32 → Int32 → Int32 → (Nat → Int32) → (Nat → Int32) → (Nat → Int32) → (Nat → Int32) → (Nat → Int32) → (Nat → Int32) → (Nat → Int32) → (Nat → Int32) → Prop} {r : Nat} (W : fu_WF cnt c t v) (Q : fu_PC cnt c t v CL TY VL) (hl : ∀ t, t < 8 → BE t = lo t) :
    ∀ n k p (im : Nat → Option Nat) (IG : Nat → Int32), k < n → p + k = cnt → fu_Im cnt c im → fu_Pi cnt im IG → (fu_sr lo t v k p im = none → ∀ IG : Nat → Int32, post 0 ((nI cnt), mk, BE, CL, TY, VL, FR, IG, PE, KE)) →
      (∀ im', fu_sr lo t v k p im = some im' → ∀ IG : Nat → Int32, fu_Pi cnt im' IG → J61 (nI (r + 1)) (nI cnt) mk BE CL TY VL FR IG PE KE) → wY_subsumes_70 post J61 (nI r) n (nI p) (nI cnt) mk BE CL TY VL FR IG PE KE := by
  intro n
  induction n with
  | zero => intro k p im IG h; omega
  | succ n ih =>
    intro k p im IG hk hp I P K0 K1
    have w1 := W.1
    rw [wY_subsumes_70]
    refine pk_le cnt p (fun z => ?_) (fun z => ?_)
    · have e : k = 0 := by omega
      subst e
      exact nm_r (nI_1 r) (K1 im rfl IG P)
    · obtain ⟨k, rfl⟩ : ∃ e, k = e + 1 := ⟨k - 1, by omega⟩
      refine ⟨vp_in_nI (by omega) (by decide), ?_⟩
      rw [nI_clamp (show p < 2 ^ 31 by omega), P p z]
      cases x : im p with
      | none =>
        rw [fu_sr_s (fu_sp_0 x)] at K0 K1
        exact br_t rfl (nm_r (nI_1 p) (ih k (p + 1) im IG (by omega) (by omega) I P K0 K1))
      | some h =>
        have hh := fu_Pi_b w1 I p h x
        refine br_f (fu_ne hh) (fy_co W Q hl I P x (fun e IG2 => ?_) (fun im' e IG2 P2 => ?_))
        · rw [fu_sr_n e] at K0
          exact br_t rfl (K0 rfl IG2)
        · rw [fu_sr_s e] at K0 K1
          exact br_f (by decide) (nm_r (nI_1 p) (ih k (p + 1) im' IG2 (by omega) (by omega) (fu_sp_ok W I e).1 P2 K0 K1))
theorem fy_su61 {post : Int32 → SY → Prop} (W : fu_WF cnt c t v) (Q : fu_PC cnt c t v CL TY VL) (hl : ∀ t, t < 8 → BE t = lo t) :
    ∀ n k i (im : Nat → Option Nat) (IG : Nat → Int32), k < n → i + k = 16 → fu_Im cnt c im → fu_Pi cnt im IG → (∀ IG : Nat → Int32, post (fu_b (fu_it (fu_sr lo t v cnt 0) k im).isSome) ((nI cnt), mk, BE, CL, TY, VL, FR, IG, PE, KE)) → wY_subsumes_61 post n (nI i) (nI cnt) mk BE CL TY VL FR IG PE KE := by
  intro n
  induction n with
  | zero => intro k i im IG h; omega
  | succ n ih =>
    intro k i im IG hk hi I P K
    have w1 := W.1
    rw [wY_subsumes_61]
    refine pk_le 16 i (fun z => ?_) (fun z => ?_)
    · have e : k = 0 := by omega
      subst e
      exact K IG
    · obtain ⟨k, rfl⟩ : ∃ e, k = e + 1 := ⟨k - 1, by omega⟩
      refine ⟨cnt + 1, fy_su70 W Q hl (cnt + 1) cnt 0 im IG (by omega) (by omega) I P (fun e IG2 => ?_) (fun im' e IG2 P2 => ?_)⟩
      · rw [fu_it_n e] at K
        exact K IG2
      · rw [fu_it_s e] at K
        exact ih k (i + 1) im' IG2 (by omega) (by omega) (fu_sr_ok W cnt 0 im im' I e).1 P2 K
theorem fy_su20 {post : Int32 → SY → Prop} {x y : Nat} (W : fu_WF cnt c t v) (Q : fu_PC cnt c t v CL TY VL) (hl : ∀ t, t < 8 → BE t = lo t) (hx : x < cnt) (hy : y < cnt)
    (K : ∀ IG : Nat → Int32, post (fu_b (fu_it (fu_sr lo t v cnt 0) 16 (fu_i0 (c x) (c y))).isSome) ((nI cnt), mk, BE, CL, TY, VL, FR, IG, PE, KE)) :
    ∀ n i (IG : Nat → Int32), cnt - i < n → i ≤ cnt → (∀ p, p < i → IG p = -4) → wY_subsumes_20 post (nI x) (nI y) (nI cnt) mk n (nI i) BE CL TY VL FR IG PE KE := by
  intro n
  induction n with
  | zero => intro i IG h; omega
  | succ n ih =>
    intro i IG h hi D
    have w1 := W.1
    have wx := W.2.1 x hx
    have wy := W.2.1 y hy
    rw [wY_subsumes_20]
    refine pk_le cnt i (fun z => ?_) (fun z => ?_)
    · refine ⟨vp_in_nI (by omega) (by decide), vp_in_nI (by omega) (by decide), ?_⟩
      rw [nI_clamp (show x < 2 ^ 31 by omega), nI_clamp (show y < 2 ^ 31 by omega), Q.1 x hx, Q.1 y hy]
      refine ⟨vp_in_nI (by omega) (by decide), ?_⟩
      rw [nI_clamp (show c x < 2 ^ 31 by omega)]
      refine nm_e ⟨17, fy_su61 W Q hl 17 16 0 (fu_i0 (c x) (c y)) _ (by omega) (by omega) (fu_i0_ok (by omega) wx.2 (by omega) wy.2) (fun p hp => ?_) K⟩
      unfold fu_i0
      by_cases w : p = c x
      · rw [w, pk_us, if_pos rfl]
        rfl
      · rw [pk_un w, if_neg w, D p (by omega)]
        rfl
    · refine ⟨vp_in_nI (by omega) (by decide), ?_⟩
      rw [nI_clamp (show i < 2 ^ 31 by omega)]
      refine nm_e (nm_r (nI_1 i) (ih (i + 1) _ (by omega) (by omega) (fun p hp => ?_)))
      by_cases w : p = i
      · rw [w, pk_us]
      · rw [pk_un w]
        exact D p (by omega)
theorem fy_su {post : Int32 → SY → Prop} {x y : Nat} (W : fu_WF cnt c t v) (Q : fu_PC cnt c t v CL TY VL) (hl : ∀ t, t < 8 → BE t = lo t) (hx : x < cnt) (hy : y < cnt)
    (K : ∀ IG : Nat → Int32, post (fu_b (fu_it (fu_sr lo t v cnt 0) 16 (fu_i0 (c x) (c y))).isSome) ((nI cnt), mk, BE, CL, TY, VL, FR, IG, PE, KE)) : wpY_subsumes post ((nI cnt), mk, BE, CL, TY, VL, FR, IG, PE, KE) (nI x) (nI y) := by
  unfold wpY_subsumes
  exact fy_no_y hx W.1 (br_f (by decide) (fy_no_y hy W.1 (br_f (by decide) ⟨cnt + 1, fy_su20 W Q hl hx hy K (cnt + 1) 0 IG (by omega) (by omega) (fun p hp => by omega)⟩)))
end
