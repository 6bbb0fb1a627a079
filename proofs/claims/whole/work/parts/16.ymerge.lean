/-! Y: merge, mergeValues, mergeMore, lowerOf, tryUnify -/
section
variable {cn mk : Int32} {BE CL TY VL FR IG PE KE : Nat → Int32}
variable {cnt : Nat} {c t : Nat → Nat} {v : Nat → Nat → Option Nat} {lo : Nat → Int32} {n m : Nat}
theorem fy_mg66 {post : Int32 → SY → Prop} {l h : Nat} (hc : cnt ≤ 16) (bl : l < 2 ^ 31) (bh : h < 2 ^ 31) : ∀ k i (FR : Nat → Int32), cnt - i < k → i ≤ cnt → post (fu_b (!decide (l = h))) ((nI cnt), mk, BE, CL, TY, VL, (fu_mp (fu_rx h l) i cnt FR), IG, PE, KE) → wY_merge_66 post (nI l) (nI h) (nI cnt) mk k (nI i) BE CL TY VL FR IG PE KE := by
  intro k
  induction k with
  | zero => intro i FR h; omega
  | succ k ih =>
    intro i FR hk hi K
    rw [wY_merge_66]
    refine pk_le cnt i (fun z => ?_) (fun z => ?_)
    · rw [fu_mp_e z] at K
      refine pk_eq l h (fun y => ?_) (fun y => ?_)
      · rw [decide_eq_true y] at K
        exact K
      · rw [decide_eq_false y] at K
        exact K
    · refine ⟨vp_in_nI (by omega) (by decide), ?_⟩
      rw [nI_clamp (show i < 2 ^ 31 by omega)]
      rw [← fu_mp_s (A := FR) z] at K
      refine br_c (fun y => ⟨vp_in_nI (by omega) (by decide), nm_e (nm_r (nI_1 i) (ih (i + 1) _ (by omega) (by omega) ?_))⟩) (fun y => ⟨vp_in_nI (by omega) (by decide), vp_in_nI (by omega) (by decide), nm_e (nm_r (nI_1 i) (ih (i + 1) _ (by omega) (by omega) ?_))⟩)
      · rw [show fu_rx h l i (FR i) = nI l from if_pos y] at K
        exact K
      · rw [show fu_rx h l i (FR i) = FR i from if_neg y] at K
        exact K
theorem fy_mg {post : Int32 → SY → Prop} {g : Nat → Nat} {x y : Nat} (hc : cnt ≤ 16) (hg : ∀ p, p < cnt → g p ≤ p) (F : ∀ p, p < cnt → FR p = nI (g p)) (hx : x < cnt) (hy : y < cnt)
    (K : ∀ FR : Nat → Int32, (∀ p, p < cnt → FR p = nI (fu_un g x y p)) → post (fu_b (!decide (g x = g y))) ((nI cnt), mk, BE, CL, TY, VL, FR, IG, PE, KE)) : wpY_merge post ((nI cnt), mk, BE, CL, TY, VL, FR, IG, PE, KE) (nI x) (nI y) := by
  have bx := hg x hx
  have by' := hg y hy
  have M : ∀ l h, l = fu_lw (g x) (g y) → h = fu_hi (g x) (g y) → ∃ n66, wY_merge_66 post (nI l) (nI h) (nI cnt) mk n66 (nI 0) BE CL TY VL FR IG PE KE := by
    intro l h el eh
    have q := fu_hl (g x) (g y)
    refine ⟨cnt + 1, fy_mg66 hc (by omega) (by omega) (cnt + 1) 0 FR (by omega) (by omega) ?_⟩
    have e : decide (l = h) = decide (g x = g y) := by
      by_cases w : g x = g y
      · rw [decide_eq_true w, decide_eq_true (by omega)]
      · rw [decide_eq_false w, decide_eq_false (by omega)]
    rw [e]
    refine K _ (fun p hp => ?_)
    have bp := hg p hp
    rw [fu_mp_in (by omega) hp, F p hp, fu_rx_c (by omega) (by omega), el, eh]
    rfl
  unfold wpY_merge
  refine ⟨vp_in_nI (by omega) (by decide), vp_in_nI (by omega) (by decide), ?_⟩
  rw [nI_clamp (show x < 2 ^ 31 by omega), nI_clamp (show y < 2 ^ 31 by omega), F x hx, F y hy]
  refine pk_le (g y) (g x) (fun z => ⟨vp_in_nI (by omega) (by decide), ?_⟩) (fun z => ⟨vp_in_nI (by omega) (by decide), ?_⟩)
  · unfold wY_merge_30
    refine ⟨vp_in_nI (by omega) (by decide), vp_in_nI (by omega) (by decide), ?_⟩
    rw [nI_clamp (show x < 2 ^ 31 by omega), nI_clamp (show y < 2 ^ 31 by omega), F x hx, F y hy]
    refine br_t (nI_le z (by omega)) ⟨vp_in_nI (by omega) (by decide), nm_e (M _ _ ?_ ?_)⟩
    · unfold fu_lw
      rw [if_neg (by omega)]
    · unfold fu_hi
      rw [if_neg (by omega)]
  · unfold wY_merge_30
    refine ⟨vp_in_nI (by omega) (by decide), vp_in_nI (by omega) (by decide), ?_⟩
    rw [nI_clamp (show x < 2 ^ 31 by omega), nI_clamp (show y < 2 ^ 31 by omega), F x hx, F y hy]
    refine br_f (nI_ge z (by omega)) ⟨vp_in_nI (by omega) (by decide), nm_e (M _ _ ?_ ?_)⟩
    · unfold fu_lw
      rw [if_pos z]
    · unfold fu_hi
      rw [if_pos z]
theorem fy_mv5 {post : Int32 → SY → Prop} {g0 : Nat → Nat} {p q : Nat} (W : fu_WF cnt c t v) (P : fu_PC cnt c t v CL TY VL) (I0 : fu_Y cnt c v n m g0) (hp : p < cnt) (hq : q < cnt) (ep : c p = p) (eq : c q = q)
    (K : ∀ (g : Nat → Nat) (b : Bool) (FR : Nat → Int32), fu_R cnt c v n m g0 g b (fun p' q' _ => p' = p ∧ q' = q) → (∀ p, p < cnt → FR p = nI (g p)) → post (fu_b b) ((nI cnt), mk, BE, CL, TY, VL, FR, IG, PE, KE)) :
    ∀ k i (g : Nat → Nat) (b : Bool) (FR : Nat → Int32), 3 - i < k → i ≤ 3 → fu_R cnt c v n m g0 g b (fun p' q' f => p' = p ∧ q' = q ∧ f < i) → (∀ p, p < cnt → FR p = nI (g p)) → wY_mergeValues_5 post (nI p) (nI q) k (fu_b b) (nI i) (nI cnt) mk BE CL TY VL FR IG PE KE := by
  intro k
  induction k with
  | zero => intro i g b FR h; omega
  | succ k ih =>
    intro i g b FR hk hi I F
    have w1 := W.1
    have i1 := I.1.1
    rw [wY_mergeValues_5]
    refine pk_le 3 i (fun z => ?_) (fun z => ?_)
    · refine ⟨fu_nb b, K g b FR (fu_R_D I (fun _ p' q' f hD _ _ hf _ _ _ d e _ _ => Or.inl ⟨hD.1, hD.2, by omega⟩) W) F⟩
    · rw [fu_a2 p i, fu_a2 q i]
      refine ⟨vp_in_nI (by omega) (by decide), ?_⟩
      rw [nI_clamp (show 3 * p + i < 2 ^ 31 by omega), nI_clamp (show 3 * q + i < 2 ^ 31 by omega), P.2.2 p i hp ep z, P.2.2 q i hq eq z]
      refine nm_e ⟨vp_in_nI (by omega) (by decide), nm_e ⟨vp_in_nI (by omega) (by decide), vp_in_nI (by omega) (by decide), ?_⟩⟩
      rw [nI_clamp (show p < 2 ^ 31 by omega), nI_clamp (show q < 2 ^ 31 by omega), F p hp, F q hq]
      have bp := (i1 p hp).1
      have bq := (i1 q hq).1
      have S : (∀ d e, g p = g q → v p i = some d → v q i = some e → False) → wY_mergeValues_5 post (nI p) (nI q) k (fu_b b) (nI (i + 1)) (nI cnt) mk BE CL TY VL FR IG PE KE := fun hs => by
        refine ih (i + 1) g b FR (by omega) (by omega) (fu_R_D I (fun _ p' q' f hD _ _ hf _ _ hg d e hd he => ?_) W) F
        obtain ⟨x1, x2, x3⟩ := hD
        subst x1 x2
        by_cases w : f = i
        · subst w
          exact (hs d e hg hd he).elim
        · exact Or.inl ⟨rfl, rfl, by omega⟩
      refine pk_eq (g p) (g q) (fun y => ?_) (fun y => nm_r (nI_1 i) (S (fun _ _ h _ _ => y h)))
      cases x : v p i with
      | none => exact br_t rfl (nm_r (nI_1 i) (S (fun d e _ hd _ => by rw [x] at hd; exact nomatch hd)))
      | some d =>
        have kd := W.2.2.2 p i d hp ep z x
        refine br_f (fu_ne (by omega)) ?_
        cases u : v q i with
        | none => exact br_t rfl (nm_r (nI_1 i) (S (fun d e _ _ he => by rw [u] at he; exact nomatch he)))
        | some e =>
          have ke := W.2.2.2 q i e hq eq z u
          refine br_f (fu_ne (by omega)) ?_
          have snd : ∀ h, fu_Cg cnt c v n m h → h d = h e := by
            intro h H
            refine H.2.2 p q i d e hp hq z ep eq ?_ x u
            rw [← I.1.2.2 h H p hp, ← I.1.2.2 h H q hq, y]
          refine fy_mg (g := g) w1 (fun p hp => (i1 p hp).1) F kd.1 ke.1 (fun FR2 F2 => ?_)
          have J := fu_R_u (D := fun p' q' f => p' = p ∧ q' = q ∧ f = i) I.1 kd.1 ke.1 snd (fun p' q' f d' e' hD h1 h2 => by
            obtain ⟨x1, x2, x3⟩ := hD
            subst x1 x2 x3
            rw [x] at h1
            rw [u] at h2
            cases h1
            cases h2
            exact ⟨rfl, rfl⟩)
          have R2 := fu_R_D (D2 := fun p' q' f => p' = p ∧ q' = q ∧ f < i + 1) (fu_R_c W I0 I J) (fun _ p' q' f hD _ _ hf _ _ hg d e hd he => by
            obtain ⟨x1, x2, x3⟩ := hD
            by_cases w : f = i
            · exact Or.inl (Or.inr ⟨x1, x2, w⟩)
            · exact Or.inl (Or.inl ⟨x1, x2, by omega⟩)) W
          by_cases w : g d = g e
          · rw [decide_eq_true w] at R2 ⊢
            refine br_t rfl (nm_r (nI_1 i) (ih (i + 1) _ b FR2 (by omega) (by omega) ?_ F2))
            rw [show (b || !true) = b by cases b <;> rfl] at R2
            exact R2
          · rw [decide_eq_false w] at R2 ⊢
            refine br_f (by decide) (nm_r (nI_1 i) (ih (i + 1) _ true FR2 (by omega) (by omega) ?_ F2))
            rw [show (b || !false) = true by cases b <;> rfl] at R2
            exact R2
theorem fy_mm14 {post : Int32 → SY → Prop} {J4 : Int32 → Int32 → Int32 → Int32 → (Nat → Int32) → (Nat → Int32) → (Nat → Int32) → (Nat → Int32) → (Nat → Int32) → (Nat → Int32) → (Nat → Int32) → (Nat → Int32) → Prop} {g0 : Nat → Nat} {p : Nat} (W : fu_WF cnt c t v) (P : fu_PC cnt c t v CL TY VL) (I0 : fu_Y cnt c v n m g0) (hp : p < cnt)
    (K : ∀ (g : Nat → Nat) (b : Bool) (FR : Nat → Int32), fu_R cnt c v n m g0 g b (fun p' q' _ => q' < p' ∧ p' < p + 1) → (∀ p, p < cnt → FR p = nI (g p)) → J4 (fu_b b) (nI (p + 1)) (nI cnt) mk BE CL TY VL FR IG PE KE) :
    ∀ k i (g : Nat → Nat) (b : Bool) (FR : Nat → Int32), p - i < k → i ≤ p → fu_R cnt c v n m g0 g b (fun p' q' _ => q' < p' ∧ (p' < p ∨ (p' = p ∧ q' < i))) → (∀ p, p < cnt → FR p = nI (g p)) → wY_mergeMore_14 post J4 (nI p) k (fu_b b) (nI i) (nI cnt) mk BE CL TY VL FR IG PE KE := by
  intro k
  induction k with
  | zero => intro i g b FR h; omega
  | succ k ih =>
    intro i g b FR hk hi I F
    have w1 := W.1
    rw [wY_mergeMore_14]
    refine pk_le p i (fun z => ?_) (fun z => ?_)
    · exact nm_r (nI_1 p) (K g b FR (fu_R_D I (fun _ p' q' f hD _ _ hf _ _ _ d e _ _ => Or.inl ⟨hD.1, by omega⟩) W) F)
    · refine ⟨vp_in_nI (by omega) (by decide), ?_⟩
      have hi2 : i < cnt := by omega
      have bp := (W.2.1 p hp).1
      have bi := (W.2.1 i hi2).1
      have S : (c p = p → c i = i → False) → wY_mergeMore_14 post J4 (nI p) k (fu_b b) (nI (i + 1)) (nI cnt) mk BE CL TY VL FR IG PE KE := fun hs => by
        refine ih (i + 1) g b FR (by omega) (by omega) (fu_R_D I (fun _ p' q' f hD _ _ hf e1 e2 hg d e hd he => ?_) W) F
        by_cases w : p' = p ∧ q' = i
        · obtain ⟨x1, x2⟩ := w
          subst x1 x2
          exact (hs e1 e2).elim
        · exact Or.inl ⟨hD.1, by omega⟩
      rw [nI_clamp (show p < 2 ^ 31 by omega), nI_clamp (show i < 2 ^ 31 by omega), P.1 p hp, P.1 i hi2]
      refine pk_eq (c p) p (fun y => ⟨vp_in_nI (by omega) (by decide), ?_⟩) (fun y => nm_r (nI_1 i) (S (fun h _ => y h)))
      refine pk_eq (c i) i (fun x => ?_) (fun x => nm_r (nI_1 i) (S (fun _ h => x h)))
      unfold wpY_mergeValues
      refine ⟨4, fy_mv5 W P I.1 hp hi2 y x (fun g2 b2 FR2 J F2 => ?_) 4 0 g false FR (by omega) (by omega) (fu_R_D (fu_R0 I.1) (fun _ p' q' f hD _ _ hf _ _ _ d e _ _ => by omega) W) F⟩
      have R2 := fu_R_D (D2 := fun p' q' _ => q' < p' ∧ (p' < p ∨ (p' = p ∧ q' < i + 1))) (fu_R_c W I0 I J) (fun _ p' q' f hD _ _ hf _ _ hg d e hd he => by
        by_cases w : p' = p ∧ q' = i
        · exact Or.inl (Or.inr w)
        · exact Or.inl (Or.inl ⟨hD.1, by omega⟩)) W
      cases b2 with
      | false =>
        rw [Bool.or_false] at R2
        exact br_t rfl (nm_r (nI_1 i) (ih (i + 1) g2 b FR2 (by omega) (by omega) R2 F2))
      | true =>
        rw [Bool.or_true] at R2
        exact br_f (by decide) (nm_r (nI_1 i) (ih (i + 1) g2 true FR2 (by omega) (by omega) R2 F2))
theorem fy_mm4 {post : Int32 → SY → Prop} {g0 : Nat → Nat} (W : fu_WF cnt c t v) (P : fu_PC cnt c t v CL TY VL) (I0 : fu_Y cnt c v n m g0)
    (K : ∀ (g : Nat → Nat) (b : Bool) (FR : Nat → Int32), fu_R cnt c v n m g0 g b (fun p' q' _ => q' < p') → (∀ p, p < cnt → FR p = nI (g p)) → post (fu_b b) ((nI cnt), mk, BE, CL, TY, VL, FR, IG, PE, KE)) :
    ∀ k i (g : Nat → Nat) (b : Bool) (FR : Nat → Int32), cnt - i < k → i ≤ cnt → fu_R cnt c v n m g0 g b (fun p' q' _ => q' < p' ∧ p' < i) → (∀ p, p < cnt → FR p = nI (g p)) → wY_mergeMore_4 post k (fu_b b) (nI i) (nI cnt) mk BE CL TY VL FR IG PE KE := by
  intro k
  induction k with
  | zero => intro i g b FR h; omega
  | succ k ih =>
    intro i g b FR hk hi I F
    have w1 := W.1
    rw [wY_mergeMore_4]
    refine pk_le cnt i (fun z => ?_) (fun z => ?_)
    · exact ⟨fu_nb b, K g b FR (fu_R_D I (fun _ p' q' f hD hp' _ hf _ _ _ d e _ _ => Or.inl ⟨hD, by omega⟩) W) F⟩
    · exact ⟨i + 1, fy_mm14 W P I0 z (fun g2 b2 FR2 J F2 => ih (i + 1) g2 b2 FR2 (by omega) (by omega) J F2) (i + 1) 0 g b FR (by omega) (by omega) (fu_R_D I (fun _ p' q' f hD _ _ hf _ _ _ d e _ _ => Or.inl (by omega)) W) F⟩
theorem fy_mm {post : Int32 → SY → Prop} {g0 : Nat → Nat} (W : fu_WF cnt c t v) (P : fu_PC cnt c t v CL TY VL) (I0 : fu_Y cnt c v n m g0) (F : ∀ p, p < cnt → FR p = nI (g0 p))
    (K : ∀ (g : Nat → Nat) (b : Bool) (FR : Nat → Int32), fu_R cnt c v n m g0 g b (fun p' q' _ => q' < p') → (∀ p, p < cnt → FR p = nI (g p)) → post (fu_b b) ((nI cnt), mk, BE, CL, TY, VL, FR, IG, PE, KE)) : wpY_mergeMore post ((nI cnt), mk, BE, CL, TY, VL, FR, IG, PE, KE) := by
  unfold wpY_mergeMore
  exact ⟨cnt + 1, fy_mm4 W P I0 K (cnt + 1) 0 g0 false FR (by omega) (by omega) (fu_R_D (fu_R0 I0) (fun _ p' q' f hD _ _ hf _ _ _ d e _ _ => by omega) W) F⟩
theorem fy_lo6 {post : Int32 → Prop} {g : Nat → Nat} {x : Nat} (W : fu_WF cnt c t v) (P : fu_PC cnt c t v CL TY VL) (hl : ∀ t, t < 8 → BE t = lo t) (hg : ∀ p, p < cnt → g p ≤ p) (F : ∀ p, p < cnt → FR p = nI (g p)) (hx : x < 16) (K : ∀ s, fu_Lo cnt c t lo g x s → post s) :
    ∀ k i s, cnt - i < k → i ≤ cnt → (∀ j, bt s j = true ↔ j < 8 ∧ ∀ q, q < i → g q = x → bt (lo (t (c q))) j = true) → wY_lowerOf_6 post (nI x) (nI cnt) mk BE CL TY VL FR IG PE KE k s (nI i) := by
  intro k
  induction k with
  | zero => intro i s h; omega
  | succ k ih =>
    intro i s hk hi S
    have w1 := W.1
    rw [wY_lowerOf_6]
    refine pk_le cnt i (fun z => ?_) (fun z => ?_)
    · have e : i = cnt := by omega
      subst e
      exact K s S
    · refine ⟨vp_in_nI (by omega) (by decide), ?_⟩
      have w2 := W.2.1 i z
      have hci : c i < cnt := by omega
      have t8 := W.2.2.1 (c i) hci w2.2
      have bg := hg i z
      rw [nI_clamp (show i < 2 ^ 31 by omega), F i z, P.1 i z, nI_clamp (show c i < 2 ^ 31 by omega), P.2.1 (c i) hci w2.2, nI_clamp (show t (c i) < 2 ^ 31 by omega), hl _ t8]
      refine pk_eq (g i) x (fun y => ⟨vp_in_nI (by omega) (by decide), vp_in_nI (by omega) (by decide), vp_in_nI t8 (by decide), nm_e (nm_r (nI_1 i) (ih (i + 1) _ (by omega) (by omega) (fun j => ?_)))⟩) (fun y => nm_r (nI_1 i) (ih (i + 1) _ (by omega) (by omega) (fun j => ?_)))
      · rw [b_and, Bool.and_eq_true, S j]
        refine ⟨fun h => ⟨h.1.1, fun q hq eq => ?_⟩, fun h => ⟨⟨h.1, fun q hq eq => h.2 q (by omega) eq⟩, h.2 i (by omega) y⟩⟩
        by_cases w : q = i
        · rw [w]; exact h.2
        · exact h.1.2 q (by omega) eq
      · rw [S j]
        refine ⟨fun h => ⟨h.1, fun q hq eq => ?_⟩, fun h => ⟨h.1, fun q hq eq => h.2 q (by omega) eq⟩⟩
        by_cases w : q = i
        · rw [w] at eq; exact absurd eq y
        · exact h.2 q (by omega) eq
theorem fy_lo {post : Int32 → Prop} {g : Nat → Nat} {x : Nat} (W : fu_WF cnt c t v) (P : fu_PC cnt c t v CL TY VL) (hl : ∀ t, t < 8 → BE t = lo t) (hg : ∀ p, p < cnt → g p ≤ p) (F : ∀ p, p < cnt → FR p = nI (g p)) (hx : x < 16) (K : ∀ s, fu_Lo cnt c t lo g x s → post s) : wpY_lowerOf post ((nI cnt), mk, BE, CL, TY, VL, FR, IG, PE, KE) (nI x) := by
  unfold wpY_lowerOf
  refine ⟨cnt + 1, fy_lo6 W P hl hg F hx K (cnt + 1) 0 255 (by omega) (by omega) (fun j => ?_)⟩
  rw [b_255, decide_eq_true_iff]
  exact ⟨fun h => ⟨h, fun q hq => by omega⟩, fun h => h.1⟩
theorem fy_tu63 {post : Int32 → SY → Prop} {g : Nat → Nat} (W : fu_WF cnt c t v) (P : fu_PC cnt c t v CL TY VL) (hl : ∀ t, t < 8 → BE t = lo t) (hg : ∀ p, p < cnt → g p ≤ p) (F : ∀ p, p < cnt → FR p = nI (g p))
    (K1 : (∀ p, p < cnt → ∃ s, fu_Lo cnt c t lo g (g p) s ∧ s ≠ 0) → post 1 ((nI cnt), mk, BE, CL, TY, VL, FR, IG, PE, KE)) (K0 : (∃ p, p < cnt ∧ fu_Lo cnt c t lo g (g p) 0) → post 0 ((nI cnt), mk, BE, CL, TY, VL, FR, IG, PE, KE)) :
    ∀ k i, cnt - i < k → i ≤ cnt → (∀ p, p < i → ∃ s, fu_Lo cnt c t lo g (g p) s ∧ s ≠ 0) → wY_tryUnify_63 post (nI cnt) mk BE CL TY VL FR IG PE KE k (nI i) := by
  intro k
  induction k with
  | zero => intro i h; omega
  | succ k ih =>
    intro i hk hi D
    have w1 := W.1
    rw [wY_tryUnify_63]
    refine pk_le cnt i (fun z => ?_) (fun z => ?_)
    · exact K1 (fun p hp => D p (by omega))
    · refine ⟨vp_in_nI (by omega) (by decide), ?_⟩
      have bg := hg i z
      rw [nI_clamp (show i < 2 ^ 31 by omega), F i z]
      refine fy_lo W P hl hg F (by omega) (fun s S => br_c (fun y => ?_) (fun y => nm_r (nI_1 i) (ih (i + 1) (by omega) (by omega) (fun p hp => ?_))))
      · rw [y] at S
        exact K0 ⟨i, z, S⟩
      · by_cases w : p = i
        · rw [w]; exact ⟨s, S, y⟩
        · exact D p (by omega)
theorem fy_tu38 {post : Int32 → SY → Prop} (W : fu_WF cnt c t v) (P : fu_PC cnt c t v CL TY VL) (hl : ∀ t, t < 8 → BE t = lo t) (hn : n < cnt) (hm : m < cnt)
    (K1 : ∀ (g : Nat → Nat) (FR : Nat → Int32), fu_Lc cnt c v n m g → (∀ p, p < cnt → FR p = nI (g p)) → (∀ p, p < cnt → ∃ s, fu_Lo cnt c t lo g (g p) s ∧ s ≠ 0) → post 1 ((nI cnt), mk, BE, CL, TY, VL, FR, IG, PE, KE))
    (K0 : ∀ (g : Nat → Nat) (FR : Nat → Int32), fu_Lc cnt c v n m g → (∃ p, p < cnt ∧ fu_Lo cnt c t lo g (g p) 0) → post 0 ((nI cnt), mk, BE, CL, TY, VL, FR, IG, PE, KE)) :
    ∀ k r (g : Nat → Nat) (b : Bool) (FR : Nat → Int32), 16 - r < k → r ≤ 16 → fu_Y cnt c v n m g → g n = g m → (∀ p, p < cnt → FR p = nI (g p)) → (b = true → fu_ld g cnt + r + 1 ≤ cnt) →
      (b = false → ∀ p q f d e, q < p → p < cnt → f < 3 → c p = p → c q = q → g p = g q → v p f = some d → v q f = some e → g d = g e) → wY_tryUnify_38 post k (fu_b b) (nI r) (nI cnt) mk BE CL TY VL FR IG PE KE := by
  intro k
  induction k with
  | zero => intro r g b FR h; omega
  | succ k ih =>
    intro r g b FR hk hr I e F B C
    have w1 := W.1
    have E : b = false → ∃ n63, wY_tryUnify_63 post (nI cnt) mk BE CL TY VL FR IG PE KE n63 0 := fun hb =>
      have G := fu_Yf W I e (C hb)
      ⟨cnt + 1, fy_tu63 W P hl (fun p hp => (I.1 p hp).1) F (fun h => K1 g FR G F h) (fun h => K0 g FR G h) (cnt + 1) 0 (by omega) (by omega) (fun p hp => by omega)⟩
    rw [wY_tryUnify_38]
    refine pk_le 16 r (fun z => ?_) (fun z => ?_)
    · refine E ?_
      cases b with
      | false => rfl
      | true =>
        have := B rfl
        omega
    · cases b with
      | false => exact br_t rfl (E rfl)
      | true =>
        have B := B rfl
        refine br_f (by decide) (fy_mm W P I F (fun g2 b2 FR2 J F2 => nm_r (nI_1 r) (ih (r + 1) g2 b2 FR2 (by omega) (by omega) J.1 ?_ F2 (fun hb => ?_) (fun hb p q f d e2 hq hp hf ep eq epq hd he => ?_))))
        · rw [← J.2.1 n hn, ← J.2.1 m hm, e]
        · have := J.2.2.1 hb
          omega
        · have k2 := J.2.2.2 hb
          have wd := W.2.2.2 p f d hp ep hf hd
          have we := W.2.2.2 q f e2 (by omega) eq hf he
          rw [k2.1 d wd.1, k2.1 e2 we.1]
          refine k2.2 p q f d e2 hq hp (by omega) hf ep eq ?_ hd he
          rw [← k2.1 p hp, ← k2.1 q (by omega), epq]
theorem fy_tu2 {post : Int32 → SY → Prop} (W : fu_WF cnt c t v) (P : fu_PC cnt c t v CL TY VL) (hl : ∀ t, t < 8 → BE t = lo t) (hn : n < cnt) (hm : m < cnt)
    (K1 : ∀ (g : Nat → Nat) (FR : Nat → Int32), fu_Lc cnt c v n m g → (∀ p, p < cnt → FR p = nI (g p)) → (∀ p, p < cnt → ∃ s, fu_Lo cnt c t lo g (g p) s ∧ s ≠ 0) → post 1 ((nI cnt), mk, BE, CL, TY, VL, FR, IG, PE, KE))
    (K0 : ∀ (g : Nat → Nat) (FR : Nat → Int32), fu_Lc cnt c v n m g → (∃ p, p < cnt ∧ fu_Lo cnt c t lo g (g p) 0) → post 0 ((nI cnt), mk, BE, CL, TY, VL, FR, IG, PE, KE)) :
    ∀ k i (FR : Nat → Int32), cnt - i < k → i ≤ cnt → (∀ p, p < i → FR p = nI (c p)) → wY_tryUnify_2 post (nI n) (nI m) (nI cnt) mk k (nI i) BE CL TY VL FR IG PE KE := by
  intro k
  induction k with
  | zero => intro i FR h; omega
  | succ k ih =>
    intro i FR hk hi D
    have w1 := W.1
    rw [wY_tryUnify_2]
    refine pk_le cnt i (fun z => ?_) (fun z => ?_)
    · have F : ∀ p, p < cnt → FR p = nI (c p) := fun p hp => D p (by omega)
      refine fy_mg (g := c) w1 (fun p hp => (W.2.1 p hp).1) F hn hm (fun FR2 F2 => ⟨17, ?_⟩)
      have I0 : fu_Y cnt c v n m c := fu_Y0 W
      have U := fu_Y_un I0 hn hm (fun h H => H.2.1)
      refine fy_tu38 W P hl hn hm K1 K0 17 0 (fu_un c n m) (!decide (c n = c m)) FR2 (by omega) (by omega) U.1 fu_un_xy F2 (fun hb => ?_) (fun hb p q f d e hq hp hf ep eq epq hd he => ?_)
      · have y : c n ≠ c m := fun y => by
          rw [decide_eq_true y] at hb
          exact absurd hb (by decide)
        have u2 := U.2 y
        have u3 := fu_cd_le (fun p => decide (c p = p)) cnt
        have u4 : fu_ld c cnt ≤ cnt := u3
        omega
      · have y : c n = c m := by
          refine Classical.byContradiction fun y => ?_
          rw [decide_eq_false y] at hb
          exact absurd hb (by decide)
        rw [fu_un_e y, fu_un_e y] at epq
        omega
    · refine ⟨vp_in_nI (by omega) (by decide), vp_in_nI (by omega) (by decide), ?_⟩
      rw [nI_clamp (show i < 2 ^ 31 by omega)]
      refine nm_e (nm_r (nI_1 i) (ih (i + 1) _ (by omega) (by omega) (fun p hp => ?_)))
      by_cases w : p = i
      · rw [w, pk_us, P.1 i z]
      · rw [pk_un w]
        exact D p (by omega)
theorem fy_tu {post : Int32 → SY → Prop} (W : fu_WF cnt c t v) (P : fu_PC cnt c t v CL TY VL) (hl : ∀ t, t < 8 → BE t = lo t) (hn : n < cnt) (hm : m < cnt)
    (K1 : ∀ (g : Nat → Nat) (FR : Nat → Int32), fu_Lc cnt c v n m g → (∀ p, p < cnt → FR p = nI (g p)) → (∀ p, p < cnt → ∃ s, fu_Lo cnt c t lo g (g p) s ∧ s ≠ 0) → post 1 ((nI cnt), mk, BE, CL, TY, VL, FR, IG, PE, KE))
    (K0 : ∀ (g : Nat → Nat) (FR : Nat → Int32), fu_Lc cnt c v n m g → (∃ p, p < cnt ∧ fu_Lo cnt c t lo g (g p) 0) → post 0 ((nI cnt), mk, BE, CL, TY, VL, FR, IG, PE, KE)) : wpY_tryUnify post ((nI cnt), mk, BE, CL, TY, VL, FR, IG, PE, KE) (nI n) (nI m) := by
  unfold wpY_tryUnify
  exact ⟨cnt + 1, fy_tu2 W P hl hn hm K1 K0 (cnt + 1) 0 FR (by omega) (by omega) (fun p hp => by omega)⟩
end
