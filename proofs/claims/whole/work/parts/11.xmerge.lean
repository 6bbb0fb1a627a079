/-! X: joinValues, merge, makeOne -/
theorem fu_JP0 (vg vk : Nat → Option Nat) (L R : Nat → Nat) (pc : Nat) : fu_JP vg vk L R pc L R pc 0 :=
  ⟨by omega, by omega, fun _ _ => ⟨rfl, rfl⟩, fun i h1 h2 => by omega, fun f d e hf => by omega⟩
theorem fu_JPk {vg vk : Nat → Option Nat} {L R L1 R1 : Nat → Nat} {pc pc1 i : Nat} (J : fu_JP vg vk L R pc L1 R1 pc1 i) (h : ∀ d e, vg i = some d → vk i = some e → d = e) : fu_JP vg vk L R pc L1 R1 pc1 (i + 1) := by
  obtain ⟨j1, j2, j3, j4, j5⟩ := J
  refine ⟨j1, by omega, j3, fun x h1 h2 => ?_, fun f d e hf hd he n => ?_⟩
  · obtain ⟨f, d, e, hf, r⟩ := j4 x h1 h2
    exact ⟨f, d, e, by omega, r⟩
  · by_cases z : f = i
    · subst z
      exact absurd (h d e hd he) n
    · exact j5 f d e (by omega) hd he n
theorem fu_JPa {vg vk : Nat → Option Nat} {L R L1 R1 : Nat → Nat} {pc pc1 i d e : Nat} (J : fu_JP vg vk L R pc L1 R1 pc1 i) (hd : vg i = some d) (he : vk i = some e) : fu_JP vg vk L R pc (fun j => if j = pc1 then d else L1 j) (fun j => if j = pc1 then e else R1 j) (pc1 + 1) (i + 1) := by
  obtain ⟨j1, j2, j3, j4, j5⟩ := J
  refine ⟨by omega, by omega, fun x hx => ?_, fun x h1 h2 => ?_, fun f d2 e2 hf hd2 he2 n => ?_⟩
  · have n : ¬ x = pc1 := by omega
    show (if x = pc1 then d else L1 x) = L x ∧ (if x = pc1 then e else R1 x) = R x
    rw [if_neg n, if_neg n]
    exact j3 x hx
  · show ∃ f d_1 e_1, f < i + 1 ∧ vg f = some d_1 ∧ vk f = some e_1 ∧ (if x = pc1 then d else L1 x) = d_1 ∧ (if x = pc1 then e else R1 x) = e_1
    by_cases z : x = pc1
    · rw [if_pos z, if_pos z]
      exact ⟨i, d, e, by omega, hd, he, rfl, rfl⟩
    · rw [if_neg z, if_neg z]
      obtain ⟨f, d, e, hf, r⟩ := j4 x h1 (by omega)
      exact ⟨f, d, e, by omega, r⟩
  · by_cases z : f = i
    · subst z
      rw [hd] at hd2
      rw [he] at he2
      cases hd2
      cases he2
      exact ⟨pc1, by omega, by omega, if_pos rfl, if_pos rfl⟩
    · obtain ⟨x, h1, h2, h3, h4⟩ := j5 f d2 e2 (by omega) hd2 he2 n
      have n : ¬ x = pc1 := by omega
      exact ⟨x, h1, by omega, (if_neg n).trans h3, (if_neg n).trans h4⟩
def fu_jx (gr : Nat → Int32) (k : Nat) : Nat → Int32 → Int32 := fun j x => if x = -4 then gr (j - 3 * k) else x
section
variable {nC mC pC : Int32} {LT TL CA TA VA SN SC ST SV PL PR IM : Nat → Int32}
theorem fx_jv2 {post : SX → Prop} {g k : Nat} {vg vk : Nat → Option Nat} {L R : Nat → Nat} {pc : Nat} {gr VE : Nat → Int32} (hg : g < 16) (hk : k < 16) (hgk : g ≠ k)
    (hgr : ∀ f, f < 3 → gr f = fu_v (vg f)) (bg : ∀ f d, f < 3 → vg f = some d → d < 16) (bk : ∀ f d, f < 3 → vk f = some d → d < 16) (hpc : pc + 3 ≤ 46)
    (K : ∀ L2 R2 pc2 (PL' PR' : Nat → Int32), fu_JP vg vk L R pc L2 R2 pc2 3 → (∀ j, j < pc2 → PL' j = nI (L2 j) ∧ PR' j = nI (R2 j)) → post (nC, mC, (nI pc2), LT, TL, CA, TA, VE, SN, SC, ST, SV, PL', PR', IM)) :
    ∀ n i (VA PL PR : Nat → Int32) (L1 R1 : Nat → Nat) (pc1 : Nat), 3 - i < n → i ≤ 3 → (∀ f, f < 3 → VA (3 * g + f) = gr f) → (∀ f, i ≤ f → f < 3 → VA (3 * k + f) = fu_v (vk f)) →
      fu_mp (fu_jx gr k) (3 * k + i) (3 * k + 3) VA = VE → fu_JP vg vk L R pc L1 R1 pc1 i → (∀ j, j < pc1 → PL j = nI (L1 j) ∧ PR j = nI (R1 j)) → wX_joinValues_2 post (nI g) (nI k) n (nI i) nC mC (nI pc1) LT TL CA TA VA SN SC ST SV PL PR IM := by
  intro n
  induction n with
  | zero => intro i VA PL PR L1 R1 pc1 h; omega
  | succ n ih =>
    intro i VA PL PR L1 R1 pc1 h hi h1 h2 hV J P
    rw [wX_joinValues_2]
    refine pk_le 3 i (fun z => ?_) (fun z => ?_)
    · have e : i = 3 := by omega
      subst e
      rw [fu_mp_e (by omega)] at hV
      rw [hV]
      exact K L1 R1 pc1 PL PR J P
    · rw [fu_a1 g i, fu_a1 k i]
      refine ⟨vp_in_nI (by omega) (by decide), ?_⟩
      rw [nI_clamp (show 3 * g + i < 2 ^ 31 by omega), nI_clamp (show 3 * k + i < 2 ^ 31 by omega), h1 i z, h2 i (by omega) z]
      refine nm_e ⟨vp_in_nI (by omega) (by decide), nm_e ?_⟩
      have hm : 3 * k + i < 3 * k + 3 := by omega
      have hx : fu_jx gr k (3 * k + i) (VA (3 * k + i)) = if fu_v (vk i) = -4 then gr i else fu_v (vk i) := by
        unfold fu_jx
        rw [h2 i (by omega) z, show 3 * k + i - 3 * k = i by omega]
      cases y : vk i with
      | none =>
        rw [y] at hx
        rw [if_pos (show fu_v none = -4 from rfl)] at hx
        refine br_t (show fu_v none = -4 from rfl) ⟨vp_in_nI (by omega) (by decide), nm_e (nm_r (nI_1 i) ?_)⟩
        refine ih (i + 1) _ PL PR L1 R1 pc1 (by omega) (by omega) (fun f hf => ?_) (fun f hf hf2 => ?_) ?_ (fu_JPk J (fun d e _ he => by rw [y] at he; exact nomatch he)) P
        · rw [pk_un (by omega)]
          exact h1 f hf
        · rw [pk_un (by omega)]
          exact h2 f (by omega) hf2
        · rw [← hV, ← fu_mp_s (A := VA) hm, hx]
          rfl
      | some d =>
        have bd := bk i d z y
        rw [y] at hx
        rw [if_neg (show ¬ fu_v (some d) = -4 from fu_ne (by omega)), ← y, ← h2 i (by omega) z] at hx
        have hV2 : fu_mp (fu_jx gr k) (3 * k + (i + 1)) (3 * k + 3) VA = VE := by
          rw [← hV, ← fu_mp_k hx]
          rfl
        have S : (∀ d e, vg i = some d → vk i = some e → d = e) → wX_joinValues_2 post (nI g) (nI k) n (nI (i + 1)) nC mC (nI pc1) LT TL CA TA VA SN SC ST SV PL PR IM := fun hs =>
          ih (i + 1) VA PL PR L1 R1 pc1 (by omega) (by omega) h1 (fun f hf hf2 => h2 f (by omega) hf2) hV2 (fu_JPk J hs) P
        refine br_f (show ¬ fu_v (some d) = -4 from fu_ne (by omega)) ?_
        rw [hgr i z]
        cases x : vg i with
        | none => exact br_t rfl (nm_r (nI_1 i) (S (fun d e hd _ => by rw [x] at hd; exact nomatch hd)))
        | some e =>
          have be := bg i e z x
          refine br_f (show ¬ fu_v (some e) = -4 from fu_ne (by omega)) ?_
          refine pk_eq e d (fun w => nm_r (nI_1 i) (S (fun d' e' hd he => ?_))) (fun w => ?_)
          · rw [x] at hd
            rw [y] at he
            cases hd
            cases he
            exact w
          · have j2 := J.2.1
            refine fx_ap (by omega) (nm_r (nI_1 i) ?_)
            refine ih (i + 1) VA _ _ _ _ (pc1 + 1) (by omega) (by omega) h1 (fun f hf hf2 => h2 f (by omega) hf2) hV2 (fu_JPa J x y) (fun j hj => ?_)
            by_cases q : j = pc1
            · rw [q, pk_us, pk_us, if_pos rfl, if_pos rfl]
              exact ⟨rfl, rfl⟩
            · rw [pk_un q, pk_un q, if_neg q, if_neg q]
              exact P j (by omega)
theorem fx_jv {post : SX → Prop} {g k : Nat} {vg vk : Nat → Option Nat} {L R : Nat → Nat} {pc : Nat} (hg : g < 16) (hk : k < 16) (hgk : g ≠ k)
    (h1 : ∀ f, f < 3 → VA (3 * g + f) = fu_v (vg f)) (h2 : ∀ f, f < 3 → VA (3 * k + f) = fu_v (vk f)) (bg : ∀ f d, f < 3 → vg f = some d → d < 16) (bk : ∀ f d, f < 3 → vk f = some d → d < 16) (hpc : pc + 3 ≤ 46)
    (P : ∀ j, j < pc → PL j = nI (L j) ∧ PR j = nI (R j))
    (K : ∀ L2 R2 pc2 (PL' PR' : Nat → Int32), fu_JP vg vk L R pc L2 R2 pc2 3 → (∀ j, j < pc2 → PL' j = nI (L2 j) ∧ PR' j = nI (R2 j)) → post (nC, mC, (nI pc2), LT, TL, CA, TA, (fu_mp (fu_jx (fun f => fu_v (vg f)) k) (3 * k) (3 * k + 3) VA), SN, SC, ST, SV, PL', PR', IM)) :
    wpX_joinValues post (nC, mC, (nI pc), LT, TL, CA, TA, VA, SN, SC, ST, SV, PL, PR, IM) (nI g) (nI k) := by
  unfold wpX_joinValues
  exact ⟨4, fx_jv2 hg hk hgk (fun _ _ => rfl) bg bk hpc K 4 0 VA PL PR L R pc (by omega) (by omega) h1 (fun f _ hf => h2 f hf) rfl (fu_JP0 vg vk L R pc) P⟩
theorem fu_rx_v {g k : Nat} {o : Option Nat} (hg : g < 2 ^ 31) (ho : ∀ d, o = some d → d < 2 ^ 31) (j : Nat) : fu_rx g k j (fu_v o) = fu_v (fu_rv g k o) := by
  cases o with
  | none =>
    unfold fu_rx
    exact if_neg (fun z => fu_ne hg z.symm)
  | some d =>
    have hd := ho d rfl
    show (if nI d = nI g then nI k else nI d) = nI (fu_rn g k d)
    by_cases z : d = g
    · rw [z, if_pos rfl, fu_rn_g]
    · rw [if_neg (fun y => z ((nI_eq hd hg).mp y)), fu_rn_n z]
theorem fu_rx_c {g k d : Nat} (hg : g < 2 ^ 31) (hd : d < 2 ^ 31) (j : Nat) : fu_rx g k j (nI d) = nI (fu_rn g k d) := fu_rx_v (o := some d) hg (fun _ e => by cases e; exact hd) j
/-- the arrays after a merge -/
theorem fu_PCm {cnt : Nat} {c1 t1 : Nat → Nat} {v1 : Nat → Nat → Option Nat} {g k ty : Nat} (hc : cnt ≤ 16) (P : fu_PC cnt c1 t1 v1 CA TA VA) (i1 : ∀ p, p < cnt → c1 p ≤ p ∧ c1 (c1 p) = c1 p) (bv : ∀ p f d, p < cnt → c1 p = p → f < 3 → v1 p f = some d → d < cnt) (hkg : k < g) (hg : g < cnt) (ek : c1 k = k) (eg : c1 g = g) :
    fu_PC cnt (fun p => fu_rn g k (c1 p)) (fun p => if p = k then ty else t1 p) (fu_v2 v1 g k) (fu_mp (fu_rx g k) 0 cnt CA) (upd TA k (nI ty)) (fu_mp (fu_jx (fun f => fu_v (fu_rv g k (v1 g f))) k) (3 * k) (3 * k + 3) (fu_mp (fu_rx g k) 0 (cnt * 3) VA)) := by
  obtain ⟨p1, p2, p3⟩ := P
  have cl : ∀ p, p < cnt → fu_rn g k (c1 p) = p → c1 p = p ∧ p ≠ g := by
    intro p hp h
    by_cases z : c1 p = g
    · rw [z, fu_rn_g] at h
      subst h
      rw [ek] at z
      exact absurd z (by omega)
    · rw [fu_rn_n z] at h
      refine ⟨h, fun y => z ?_⟩
      rw [h, y]
  have q3 : ∀ p f, p < cnt → c1 p = p → f < 3 → fu_mp (fu_rx g k) 0 (cnt * 3) VA (3 * p + f) = fu_v (fu_rv g k (v1 p f)) := by
    intro p f hp ep hf
    rw [fu_mp_in (by omega) (by omega), p3 p f hp ep hf, fu_rx_v (by omega) (fun d hd => ?_)]
    have := bv p f d hp ep hf hd
    omega
  refine ⟨fun p hp => ?_, fun p hp ep => ?_, fun p f hp ep hf => ?_⟩
  · have := (i1 p hp).1
    rw [fu_mp_in (by omega) hp, p1 p hp, fu_rx_c (by omega) (by omega)]
  · obtain ⟨e1, _⟩ := cl p hp ep
    show upd TA k (nI ty) p = nI (if p = k then ty else t1 p)
    by_cases z : p = k
    · rw [z, pk_us, if_pos rfl]
    · rw [pk_un z, if_neg z]
      exact p2 p hp e1
  · obtain ⟨e1, _⟩ := cl p hp ep
    unfold fu_v2
    by_cases z : p = k
    · subst z
      rw [if_pos rfl, fu_mp_in (by omega) (by omega), q3 p f hp e1 hf]
      unfold fu_jx
      rw [show 3 * p + f - 3 * p = f by omega]
      cases y : fu_rv g p (v1 p f) with
      | none => exact if_pos rfl
      | some d =>
        obtain ⟨e, he, hd⟩ := fu_rv_s y
        have be := bv p f e hp e1 hf he
        have bd : d < 2 ^ 31 := by
          rw [← hd]
          by_cases w : e = g
          · rw [w, fu_rn_g]; omega
          · rw [fu_rn_n w]; omega
        exact if_neg (fu_ne bd)
    · rw [if_neg z, fu_mp_out (by omega)]
      exact q3 p f hp e1 hf
end
