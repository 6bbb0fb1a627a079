/-! X: save, restore, rename, pending pairs -/
def fu_ci (src : Nat → Int32) (off i len : Nat) (A : Nat → Int32) : Nat → Int32 := fu_mp (fun j _ => src (j - off)) (off + i) (off + len) A
theorem fu_ci_e {src : Nat → Int32} {off i len : Nat} {A : Nat → Int32} (h : len ≤ i) : fu_ci src off i len A = A := fu_mp_e (by omega)
theorem fu_ci_s {src : Nat → Int32} {off i len : Nat} {A : Nat → Int32} (h : i < len) : fu_ci src off (i + 1) len (upd A (off + i) (src i)) = fu_ci src off i len A := by
  have H := fu_mp_s (F := fun j _ => src (j - off)) (i := off + i) (e := off + len) (A := A) (by omega)
  have e : src i = src (off + i - off) := by rw [show off + i - off = i by omega]
  unfold fu_ci
  rw [e]
  exact H
theorem fu_ci_in {src : Nat → Int32} {off len : Nat} {A : Nat → Int32} {j : Nat} (h : j < len) : fu_ci src off 0 len A (off + j) = src j := by
  unfold fu_ci
  rw [fu_mp_in (by omega) (by omega), show off + j - off = j by omega]
theorem fu_ci_out {src : Nat → Int32} {off len : Nat} {A : Nat → Int32} {j : Nat} (h : j < off ∨ off + len ≤ j) : fu_ci src off 0 len A j = A j := fu_mp_out (by omega)
def fu_ri (src : Nat → Int32) (off i len : Nat) (A : Nat → Int32) : Nat → Int32 := fu_mp (fun j _ => src (off + j)) i len A
theorem fu_ri_e {src : Nat → Int32} {off i len : Nat} {A : Nat → Int32} (h : len ≤ i) : fu_ri src off i len A = A := fu_mp_e h
theorem fu_ri_s {src : Nat → Int32} {off i len : Nat} {A : Nat → Int32} (h : i < len) : fu_ri src off (i + 1) len (upd A i (src (off + i))) = fu_ri src off i len A := fu_mp_s (F := fun j _ => src (off + j)) h
theorem fu_ri_in {src : Nat → Int32} {off len : Nat} {A : Nat → Int32} {j : Nat} (h : j < len) : fu_ri src off 0 len A j = src (off + j) := fu_mp_in (by omega) h
section
variable {nC mC pC : Int32} {LT TL CA TA VA SN SC ST SV PL PR IM : Nat → Int32}
theorem fx_sv60 {post : SX → Prop} {s : Nat} (hs : s < 7) : ∀ n i (SV : Nat → Int32), 48 - i < n → i ≤ 48 → post (nC, mC, pC, LT, TL, CA, TA, VA, SN, SC, ST, (fu_ci VA (s * 48) i 48 SV), PL, PR, IM) → wX_save_60 post (nI s) nC mC pC n (nI i) LT TL CA TA VA SN SC ST SV PL PR IM := by
  intro n
  induction n with
  | zero => intro i SV h; omega
  | succ n ih =>
    intro i SV h hi k
    rw [wX_save_60]
    refine pk_le 48 i (fun z => ?_) (fun z => ?_)
    · rw [fu_ci_e z] at k
      exact k
    · rw [fu_a4 s i]
      refine ⟨vp_in_nI z (by decide), vp_in_nI (by omega) (by decide), ?_⟩
      rw [nI_clamp (show s * 48 + i < 2 ^ 31 by omega), nI_clamp (show i < 2 ^ 31 by omega)]
      rw [← fu_ci_s z] at k
      exact nm_e (nm_r (nI_1 i) (ih (i + 1) _ (by omega) (by omega) k))
theorem fx_sv12 {post : SX → Prop} {s : Nat} (hs : s < 7) : ∀ n i (SC ST : Nat → Int32), 16 - i < n → i ≤ 16 → post (nC, mC, pC, LT, TL, CA, TA, VA, SN, (fu_ci CA (s * 16) i 16 SC), (fu_ci TA (s * 16) i 16 ST), (fu_ci VA (s * 48) 0 48 SV), PL, PR, IM) → wX_save_12 post (nI s) nC mC pC n (nI i) LT TL CA TA VA SN SC ST SV PL PR IM := by
  intro n
  induction n with
  | zero => intro i SC ST h; omega
  | succ n ih =>
    intro i SC ST h hi k
    rw [wX_save_12]
    refine pk_le 16 i (fun z => ?_) (fun z => ?_)
    · rw [fu_ci_e z, fu_ci_e z] at k
      exact ⟨49, fx_sv60 hs 49 0 SV (by omega) (by omega) k⟩
    · rw [fu_a3 s i]
      refine ⟨vp_in_nI z (by decide), vp_in_nI (by omega) (by decide), ?_⟩
      rw [nI_clamp (show s * 16 + i < 2 ^ 31 by omega), nI_clamp (show i < 2 ^ 31 by omega)]
      rw [← fu_ci_s (A := SC) z, ← fu_ci_s (A := ST) z] at k
      exact nm_e ⟨vp_in_nI z (by decide), vp_in_nI (by omega) (by decide), nm_e (nm_r (nI_1 i) (ih (i + 1) _ _ (by omega) (by omega) k))⟩
theorem fx_sv {post : SX → Prop} {s : Nat} (hs : s < 7) (k : post (nC, mC, pC, LT, TL, CA, TA, VA, (upd SN s nC), (fu_ci CA (s * 16) 0 16 SC), (fu_ci TA (s * 16) 0 16 ST), (fu_ci VA (s * 48) 0 48 SV), PL, PR, IM)) : wpX_save post (nC, mC, pC, LT, TL, CA, TA, VA, SN, SC, ST, SV, PL, PR, IM) (nI s) := by
  unfold wpX_save
  refine ⟨vp_in_nI hs (by decide), ?_⟩
  rw [nI_clamp (show s < 2 ^ 31 by omega)]
  exact nm_e ⟨17, fx_sv12 hs 17 0 SC ST (by omega) (by omega) k⟩
theorem fx_rs60 {post : SX → Prop} {s : Nat} (hs : s < 7) : ∀ n i (VA : Nat → Int32), 48 - i < n → i ≤ 48 → post (nC, mC, pC, LT, TL, CA, TA, (fu_ri SV (s * 48) i 48 VA), SN, SC, ST, SV, PL, PR, IM) → wX_restore_60 post (nI s) nC mC pC n (nI i) LT TL CA TA VA SN SC ST SV PL PR IM := by
  intro n
  induction n with
  | zero => intro i VA h; omega
  | succ n ih =>
    intro i VA h hi k
    rw [wX_restore_60]
    refine pk_le 48 i (fun z => ?_) (fun z => ?_)
    · rw [fu_ri_e z] at k
      exact k
    · rw [fu_a4 s i]
      refine ⟨vp_in_nI (by omega) (by decide), vp_in_nI z (by decide), ?_⟩
      rw [nI_clamp (show s * 48 + i < 2 ^ 31 by omega), nI_clamp (show i < 2 ^ 31 by omega)]
      rw [← fu_ri_s z] at k
      exact nm_e (nm_r (nI_1 i) (ih (i + 1) _ (by omega) (by omega) k))
theorem fx_rs12 {post : SX → Prop} {s : Nat} (hs : s < 7) : ∀ n i (CA TA : Nat → Int32), 16 - i < n → i ≤ 16 → post (nC, mC, pC, LT, TL, (fu_ri SC (s * 16) i 16 CA), (fu_ri ST (s * 16) i 16 TA), (fu_ri SV (s * 48) 0 48 VA), SN, SC, ST, SV, PL, PR, IM) → wX_restore_12 post (nI s) nC mC pC n (nI i) LT TL CA TA VA SN SC ST SV PL PR IM := by
  intro n
  induction n with
  | zero => intro i CA TA h; omega
  | succ n ih =>
    intro i CA TA h hi k
    rw [wX_restore_12]
    refine pk_le 16 i (fun z => ?_) (fun z => ?_)
    · rw [fu_ri_e z, fu_ri_e z] at k
      exact ⟨49, fx_rs60 hs 49 0 VA (by omega) (by omega) k⟩
    · rw [fu_a3 s i]
      refine ⟨vp_in_nI (by omega) (by decide), vp_in_nI z (by decide), ?_⟩
      rw [nI_clamp (show s * 16 + i < 2 ^ 31 by omega), nI_clamp (show i < 2 ^ 31 by omega)]
      rw [← fu_ri_s (A := CA) z, ← fu_ri_s (A := TA) z] at k
      exact nm_e ⟨vp_in_nI (by omega) (by decide), vp_in_nI z (by decide), nm_e (nm_r (nI_1 i) (ih (i + 1) _ _ (by omega) (by omega) k))⟩
theorem fx_rs {post : SX → Prop} {s : Nat} (hs : s < 7) (k : post ((SN s), mC, pC, LT, TL, (fu_ri SC (s * 16) 0 16 CA), (fu_ri ST (s * 16) 0 16 TA), (fu_ri SV (s * 48) 0 48 VA), SN, SC, ST, SV, PL, PR, IM)) : wpX_restore post (nC, mC, pC, LT, TL, CA, TA, VA, SN, SC, ST, SV, PL, PR, IM) (nI s) := by
  unfold wpX_restore
  refine ⟨vp_in_nI hs (by decide), ?_⟩
  rw [nI_clamp (show s < 2 ^ 31 by omega)]
  exact nm_e ⟨17, fx_rs12 hs 17 0 CA TA (by omega) (by omega) k⟩
def fu_rx (g k : Nat) : Nat → Int32 → Int32 := fun _ x => if x = nI g then nI k else x
theorem fx_rn35 {post : SX → Prop} {cnt g k : Nat} (hc : cnt ≤ 16) : ∀ n i (VA : Nat → Int32), cnt * 3 - i < n → i ≤ cnt * 3 → post ((nI cnt), mC, pC, LT, TL, CA, TA, (fu_mp (fu_rx g k) i (cnt * 3) VA), SN, SC, ST, SV, PL, PR, IM) → wX_rename_35 post (nI g) (nI k) (nI cnt) mC pC n (nI i) LT TL CA TA VA SN SC ST SV PL PR IM := by
  intro n
  induction n with
  | zero => intro i VA h; omega
  | succ n ih =>
    intro i VA h hi K
    rw [wX_rename_35]
    rw [fu_x3 cnt]
    refine pk_le (cnt * 3) i (fun z => ?_) (fun z => ?_)
    · rw [fu_mp_e z] at K
      exact K
    · refine ⟨vp_in_nI (by omega) (by decide), ?_⟩
      rw [nI_clamp (show i < 2 ^ 31 by omega)]
      refine br_c (fun y => ⟨vp_in_nI (by omega) (by decide), nm_e (nm_r (nI_1 i) (ih (i + 1) _ (by omega) (by omega) ?_))⟩) (fun y => nm_r (nI_1 i) (ih (i + 1) _ (by omega) (by omega) ?_))
      · have e : fu_rx g k i (VA i) = nI k := if_pos y
        rw [← fu_mp_s z, e] at K
        exact K
      · rw [fu_mp_k (show fu_rx g k i (VA i) = VA i from if_neg y)]
        exact K
theorem fx_rn2 {post : SX → Prop} {cnt g k : Nat} (hc : cnt ≤ 16) : ∀ n i (CA : Nat → Int32), cnt - i < n → i ≤ cnt → post ((nI cnt), mC, pC, LT, TL, (fu_mp (fu_rx g k) i cnt CA), TA, (fu_mp (fu_rx g k) 0 (cnt * 3) VA), SN, SC, ST, SV, PL, PR, IM) → wX_rename_2 post (nI g) (nI k) (nI cnt) mC pC n (nI i) LT TL CA TA VA SN SC ST SV PL PR IM := by
  intro n
  induction n with
  | zero => intro i CA h; omega
  | succ n ih =>
    intro i CA h hi K
    rw [wX_rename_2]
    refine pk_le cnt i (fun z => ?_) (fun z => ?_)
    · rw [fu_mp_e z] at K
      exact ⟨cnt * 3 + 1, fx_rn35 hc (cnt * 3 + 1) 0 VA (by omega) (by omega) K⟩
    · refine ⟨vp_in_nI (by omega) (by decide), ?_⟩
      rw [nI_clamp (show i < 2 ^ 31 by omega)]
      refine br_c (fun y => ⟨vp_in_nI (by omega) (by decide), nm_e (nm_r (nI_1 i) (ih (i + 1) _ (by omega) (by omega) ?_))⟩) (fun y => nm_r (nI_1 i) (ih (i + 1) _ (by omega) (by omega) ?_))
      · have e : fu_rx g k i (CA i) = nI k := if_pos y
        rw [← fu_mp_s (A := CA) z, e] at K
        exact K
      · rw [fu_mp_k (show fu_rx g k i (CA i) = CA i from if_neg y)]
        exact K
theorem fx_rn {post : SX → Prop} {cnt g k : Nat} (hc : cnt ≤ 16) (K : post ((nI cnt), mC, pC, LT, TL, (fu_mp (fu_rx g k) 0 cnt CA), TA, (fu_mp (fu_rx g k) 0 (cnt * 3) VA), SN, SC, ST, SV, PL, PR, IM)) : wpX_rename post ((nI cnt), mC, pC, LT, TL, CA, TA, VA, SN, SC, ST, SV, PL, PR, IM) (nI g) (nI k) := by
  unfold wpX_rename
  exact ⟨cnt + 1, fx_rn2 hc (cnt + 1) 0 CA (by omega) (by omega) K⟩
theorem fx_ap {post : SX → Prop} {pc : Nat} {x y : Int32} (h : pc < 46) (k : post (nC, mC, (nI (pc + 1)), LT, TL, CA, TA, VA, SN, SC, ST, SV, (upd PL pc x), (upd PR pc y), IM)) : wpX_addPending post (nC, mC, (nI pc), LT, TL, CA, TA, VA, SN, SC, ST, SV, PL, PR, IM) x y := by
  unfold wpX_addPending
  refine br_f (nI_ge (b := 46) h (by decide)) ?_
  refine ⟨vp_in_nI h (by decide), ?_⟩
  rw [nI_clamp (show pc < 2 ^ 31 by omega)]
  exact nm_e ⟨vp_in_nI h (by decide), nm_e (nm_r (nI_1 pc) k)⟩
end
