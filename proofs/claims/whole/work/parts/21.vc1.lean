/-! what is owed -/
theorem i_vc0 : wpX_init (fun u => wpY_init (fun v => i_Rel 0 u v)) := by
  unfold wpX_init
  refine ⟨9, fx_in118 9 0 (fun _ => 0) (by omega) (by omega) ?_⟩
  unfold wpY_init
  refine nm_e ⟨9, fy_in80 9 1 (upd (fun _ => 0) 0 255) (by omega) (by omega) ?_⟩
  refine fu_Ri (cnt := 0) (q := 0) (c := fun _ => 0) (t := fun _ => 0) (w := fun _ _ => none) fu_l0_fit (fun t ht => ?_) (fun t ht => ?_) ⟨by omega, fun p hp => by omega, fun p hp => by omega, fun p f d hp => by omega⟩ ⟨fun p hp => by omega, fun p hp => by omega, fun p f hp => by omega⟩ ⟨fun p hp => by omega, fun p hp => by omega, fun p f hp => by omega⟩ (by omega) (fun s hs => by omega)
  · unfold fu_l0
    by_cases z : t = 0
    · rw [if_pos z, z, pk_us]
    · rw [if_neg z, if_pos ht, pk_un z, fu_mp_in (by omega) ht]
      rfl
  · unfold fu_l0
    by_cases z : t = 0
    · rw [if_pos z, z, fu_mp_out (by omega), pk_us]
    · rw [if_neg z, if_pos ht, fu_mp_in (by omega) ht]
      rfl
theorem i_vc_under {k : Nat} {u : SX} {v : SY} (I : i_Rel k u v) (hk : k + 4 ≤ 2048) (v1 : Int32) (v2 : Int32) : wpX_under (fun r u' => wpY_under (fun r' v' => r' = r ∧ i_Rel (k + 4) u' v') v v1 v2) u v1 v2 := by
  have J := i_up I
  obtain ⟨nC, mC, pC, LT, TL, CA, TA, VA, SN, SC, ST, SV, PL, PR, IM⟩ := u
  obtain ⟨cn, mk, BE, CL, TY, VL, FR, IG, PE, KE⟩ := v
  obtain ⟨lo, q, cnt, c, t, w, F, l1, l2, W, rfl, rfl, P1, P2, hq, rfl, rfl, M⟩ := I
  rcases pk_ix v1 (n := 8) (by decide) with h | h | ⟨a, ha, rfl⟩
  · unfold wpX_under
    refine fx_ty_n (Or.inl h) (br_t rfl ?_)
    unfold wpY_under
    exact fy_ty_n (Or.inl h) (br_t rfl ⟨rfl, J⟩)
  · unfold wpX_under
    refine fx_ty_n (Or.inr h) (br_t rfl ?_)
    unfold wpY_under
    exact fy_ty_n (Or.inr h) (br_t rfl ⟨rfl, J⟩)
  · have B : ∀ x : Int32, (x < 0 ∨ nI 8 ≤ x) → wpX_under (fun r u' => wpY_under (fun r' v' => r' = r ∧ i_Rel (k + 4) u' v') ((nI cnt), (nI q), BE, CL, TY, VL, FR, IG, PE, KE) (nI a) x) ((nI cnt), (nI q), pC, LT, TL, CA, TA, VA, SN, SC, ST, SV, PL, PR, IM) (nI a) x := by
      intro x h
      unfold wpX_under
      refine fx_ty_y ha (br_f (by decide) (fx_ty_n h (br_t rfl ?_)))
      unfold wpY_under
      exact fy_ty_y ha (br_f (by decide) (fy_ty_n h (br_t rfl ⟨rfl, J⟩)))
    rcases pk_ix v2 (n := 8) (by decide) with h | h | ⟨b, hb, rfl⟩
    · exact B v2 (Or.inl h)
    · exact B v2 (Or.inr h)
    · by_cases h0 : 0 < cnt
      · have w1 := W.1
        unfold wpX_under
        refine fx_ty_y ha (br_f (by decide) (fx_ty_y hb (br_f (by decide) (br_f (nI_nle h0 (by omega)) ?_))))
        unfold wpY_under
        exact fy_ty_y ha (br_f (by decide) (fy_ty_y hb (br_f (by decide) (br_f (nI_nle h0 (by omega)) ⟨rfl, J⟩))))
      · have e0 : cnt = 0 := by omega
        subst e0
        have np := fu_nw_pre F.1 ha hb
        refine fx_under l1 ha hb (fun n hb2 => ?_) (fun ho ok TL' => ?_) (fun ho ok LT' TL' l1' => ?_)
        · have no := fu_turn F.1 ha hb n hb2
          exact fy_under l2 ha hb (fun _ BE' FR' l2' => ⟨rfl, fu_Ri F l1 l2' W P1 P2 hq M⟩) (fun ok => absurd ok no)
        · have na := fu_nw_ant F.1 F.2.1 ha hb ho
          exact fy_under l2 ha hb (fun _ BE' FR' l2' => ⟨rfl, fu_Ri F l1 l2' W P1 P2 hq M⟩) (fun ok2 => absurd ((fu_ok np na).mp ok2) ok)
        · have na := fu_nw_ant F.1 F.2.1 ha hb ho
          exact fy_under l2 ha hb (fun no => absurd ((fu_ok np na).mpr ok) no) (fun _ BE' FR' l2' => ⟨rfl, fu_Ri ⟨np, na, fu_okX_mee ok⟩ l1' l2' W P1 P2 hq M⟩)
theorem i_vc_isUnder {k : Nat} {u : SX} {v : SY} (I : i_Rel k u v) (hk : k + 4 ≤ 2048) (v1 : Int32) (v2 : Int32) : wpX_isUnder (fun r => wpY_isUnder (fun r' => r' = r ∧ i_Rel (k + 4) u v) v v1 v2) u v1 v2 := by
  have J := i_up I
  obtain ⟨nC, mC, pC, LT, TL, CA, TA, VA, SN, SC, ST, SV, PL, PR, IM⟩ := u
  obtain ⟨cn, mk, BE, CL, TY, VL, FR, IG, PE, KE⟩ := v
  obtain ⟨lo, q, cnt, c, t, w, F, l1, l2, W, rfl, rfl, P1, P2, hq, rfl, rfl, M⟩ := I
  have A : ∀ x y : Int32, (x < 0 ∨ nI 8 ≤ x) → wpX_isUnder (fun r => wpY_isUnder (fun r' => r' = r ∧ i_Rel (k + 4) ((nI cnt), (nI q), pC, LT, TL, CA, TA, VA, SN, SC, ST, SV, PL, PR, IM) ((nI cnt), (nI q), BE, CL, TY, VL, FR, IG, PE, KE)) ((nI cnt), (nI q), BE, CL, TY, VL, FR, IG, PE, KE) x y) ((nI cnt), (nI q), pC, LT, TL, CA, TA, VA, SN, SC, ST, SV, PL, PR, IM) x y := by
    intro x y h
    unfold wpX_isUnder
    refine fx_ty_n h (br_t rfl ?_)
    unfold wpY_isUnder
    exact fy_ty_n h (br_t rfl ⟨rfl, J⟩)
  rcases pk_ix v1 (n := 8) (by decide) with h | h | ⟨a, ha, rfl⟩
  · exact A v1 v2 (Or.inl h)
  · exact A v1 v2 (Or.inr h)
  · have B : ∀ x : Int32, (x < 0 ∨ nI 8 ≤ x) → wpX_isUnder (fun r => wpY_isUnder (fun r' => r' = r ∧ i_Rel (k + 4) ((nI cnt), (nI q), pC, LT, TL, CA, TA, VA, SN, SC, ST, SV, PL, PR, IM) ((nI cnt), (nI q), BE, CL, TY, VL, FR, IG, PE, KE)) ((nI cnt), (nI q), BE, CL, TY, VL, FR, IG, PE, KE) (nI a) x) ((nI cnt), (nI q), pC, LT, TL, CA, TA, VA, SN, SC, ST, SV, PL, PR, IM) (nI a) x := by
      intro x h
      unfold wpX_isUnder
      refine fx_ty_y ha (br_f (by decide) (fx_ty_n h (br_t rfl ?_)))
      unfold wpY_isUnder
      exact fy_ty_y ha (br_f (by decide) (fy_ty_n h (br_t rfl ⟨rfl, J⟩)))
    rcases pk_ix v2 (n := 8) (by decide) with h | h | ⟨b, hb, rfl⟩
    · exact B v2 (Or.inl h)
    · exact B v2 (Or.inr h)
    · unfold wpX_isUnder
      refine fx_ty_y ha (br_f (by decide) (fx_ty_y hb (br_f (by decide) (fx_lu ha hb ?_))))
      rw [l1 b hb]
      have S : ∀ r : Int32, r = fu_b (bt (lo b) a) → wpY_isUnder (fun r' => r' = r ∧ i_Rel (k + 4) ((nI cnt), (nI q), pC, LT, TL, CA, TA, VA, SN, SC, ST, SV, PL, PR, IM) ((nI cnt), (nI q), BE, CL, TY, VL, FR, IG, PE, KE)) ((nI cnt), (nI q), BE, CL, TY, VL, FR, IG, PE, KE) (nI a) (nI b) := by
        intro r er
        subst er
        unfold wpY_isUnder
        refine fy_ty_y ha (br_f (by decide) (fy_ty_y hb (br_f (by decide) ⟨vp_in_nI hb (by decide), ?_⟩)))
        rw [nI_clamp (show b < 2 ^ 31 by omega), l2 b hb]
        refine fy_ha (by omega) ?_
        cases y : bt (lo b) a with
        | true => exact br_f (by decide) ⟨rfl, J⟩
        | false => exact br_t rfl ⟨rfl, J⟩
      cases y : bt (lo b) a with
      | true =>
        rw [y] at S
        exact br_f (by decide) (S 1 rfl)
      | false =>
        rw [y] at S
        exact br_t rfl (S 0 rfl)
theorem i_vc_meet {k : Nat} {u : SX} {v : SY} (I : i_Rel k u v) (hk : k + 4 ≤ 2048) (v1 : Int32) (v2 : Int32) : wpX_meet (fun r => wpY_meet (fun r' => r' = r ∧ i_Rel (k + 4) u v) v v1 v2) u v1 v2 := by
  have J := i_up I
  obtain ⟨nC, mC, pC, LT, TL, CA, TA, VA, SN, SC, ST, SV, PL, PR, IM⟩ := u
  obtain ⟨cn, mk, BE, CL, TY, VL, FR, IG, PE, KE⟩ := v
  obtain ⟨lo, q, cnt, c, t, w, F, l1, l2, W, rfl, rfl, P1, P2, hq, rfl, rfl, M⟩ := I
  have A : ∀ x y : Int32, (x < 0 ∨ nI 8 ≤ x) → wpX_meet (fun r => wpY_meet (fun r' => r' = r ∧ i_Rel (k + 4) ((nI cnt), (nI q), pC, LT, TL, CA, TA, VA, SN, SC, ST, SV, PL, PR, IM) ((nI cnt), (nI q), BE, CL, TY, VL, FR, IG, PE, KE)) ((nI cnt), (nI q), BE, CL, TY, VL, FR, IG, PE, KE) x y) ((nI cnt), (nI q), pC, LT, TL, CA, TA, VA, SN, SC, ST, SV, PL, PR, IM) x y := by
    intro x y h
    unfold wpX_meet
    refine fx_ty_n h (br_t rfl ?_)
    unfold wpY_meet
    exact fy_ty_n h (br_t rfl ⟨rfl, J⟩)
  rcases pk_ix v1 (n := 8) (by decide) with h | h | ⟨a, ha, rfl⟩
  · exact A v1 v2 (Or.inl h)
  · exact A v1 v2 (Or.inr h)
  · have B : ∀ x : Int32, (x < 0 ∨ nI 8 ≤ x) → wpX_meet (fun r => wpY_meet (fun r' => r' = r ∧ i_Rel (k + 4) ((nI cnt), (nI q), pC, LT, TL, CA, TA, VA, SN, SC, ST, SV, PL, PR, IM) ((nI cnt), (nI q), BE, CL, TY, VL, FR, IG, PE, KE)) ((nI cnt), (nI q), BE, CL, TY, VL, FR, IG, PE, KE) (nI a) x) ((nI cnt), (nI q), pC, LT, TL, CA, TA, VA, SN, SC, ST, SV, PL, PR, IM) (nI a) x := by
      intro x h
      unfold wpX_meet
      refine fx_ty_y ha (br_f (by decide) (fx_ty_n h (br_t rfl ?_)))
      unfold wpY_meet
      exact fy_ty_y ha (br_f (by decide) (fy_ty_n h (br_t rfl ⟨rfl, J⟩)))
    rcases pk_ix v2 (n := 8) (by decide) with h | h | ⟨b, hb, rfl⟩
    · exact B v2 (Or.inl h)
    · exact B v2 (Or.inr h)
    · unfold wpX_meet
      refine fx_ty_y ha (br_f (by decide) (fx_ty_y hb (br_f (by decide) (fx_mi l1 ha hb ?_))))
      unfold wpY_meet
      refine fy_ty_y ha (br_f (by decide) (fy_ty_y hb (br_f (by decide) ⟨vp_in_nI ha (by decide), vp_in_nI hb (by decide), ?_⟩)))
      rw [nI_clamp (show a < 2 ^ 31 by omega), nI_clamp (show b < 2 ^ 31 by omega), l2 a ha, l2 b hb]
      exact fy_gr l2 ⟨fu_gm F.1 ha hb, J⟩
theorem i_vc_node {k : Nat} {u : SX} {v : SY} (I : i_Rel k u v) (hk : k + 4 ≤ 2048) (v1 : Int32) : wpX_node (fun r u' => wpY_node (fun r' v' => r' = r ∧ i_Rel (k + 4) u' v') v v1) u v1 := by
  have J := i_up I
  obtain ⟨nC, mC, pC, LT, TL, CA, TA, VA, SN, SC, ST, SV, PL, PR, IM⟩ := u
  obtain ⟨cn, mk, BE, CL, TY, VL, FR, IG, PE, KE⟩ := v
  obtain ⟨lo, q, cnt, c, t, w, F, l1, l2, W, rfl, rfl, P1, P2, hq, rfl, rfl, M⟩ := I
  have w1 := W.1
  have A : ∀ x : Int32, (x < 0 ∨ nI 8 ≤ x) → wpX_node (fun r u' => wpY_node (fun r' v' => r' = r ∧ i_Rel (k + 4) u' v') ((nI cnt), (nI q), BE, CL, TY, VL, FR, IG, PE, KE) x) ((nI cnt), (nI q), pC, LT, TL, CA, TA, VA, SN, SC, ST, SV, PL, PR, IM) x := by
    intro x h
    unfold wpX_node
    refine fx_ty_n h (br_t rfl ?_)
    unfold wpY_node
    exact fy_ty_n h (br_t rfl ⟨rfl, J⟩)
  rcases pk_ix v1 (n := 8) (by decide) with h | h | ⟨a, ha, rfl⟩
  · exact A v1 (Or.inl h)
  · exact A v1 (Or.inr h)
  · by_cases h16 : cnt < 16
    · unfold wpX_node
      refine fx_ty_y ha (br_f (by decide) (br_t (nI_lt (b := 16) h16 (by decide)) ⟨vp_in_nI h16 (by decide), ?_⟩))
      rw [nI_clamp (show cnt < 2 ^ 31 by omega)]
      refine nm_e ⟨vp_in_nI h16 (by decide), nm_e ⟨4, fx_no42 h16 4 0 VA (by omega) (by omega) ?_⟩⟩
      unfold wpY_node
      refine fy_ty_y ha (br_f (by decide) (pk_eq cnt 16 (fun z => by omega) (fun _ => ⟨vp_in_nI h16 (by decide), ?_⟩)))
      rw [nI_clamp (show cnt < 2 ^ 31 by omega), fu_3x cnt, nI_1 (3 * cnt), show nI (3 * cnt) + 2 = nI (3 * cnt + 2) from nI_add (3 * cnt) 2]
      rw [nI_clamp (show 3 * cnt < 2 ^ 31 by omega), nI_clamp (show 3 * cnt + 1 < 2 ^ 31 by omega), nI_clamp (show 3 * cnt + 2 < 2 ^ 31 by omega)]
      refine nm_e ⟨vp_in_nI h16 (by decide), nm_e ⟨vp_in_nI (by omega) (by decide), nm_e ⟨vp_in_nI (by omega) (by decide), nm_e ⟨vp_in_nI (by omega) (by decide), nm_e (nm_r (nI_1 cnt) ⟨nI_pred cnt, ?_⟩)⟩⟩⟩⟩
      refine fu_Ri F l1 l2 (fu_nd_W W h16 ha) (fu_nd_P P1 (fun f hf => ?_) (fun j hj => ?_)) (fu_nd_P P2 (fun f hf => ?_) (fun j hj => ?_)) hq M
      · rw [fu_mp_in (by omega) (by omega)]
      · rw [fu_mp_out (by omega)]
      · by_cases z2 : f = 2
        · rw [z2, pk_us]
        · by_cases z1 : f = 1
          · rw [z1, pk_un (by omega), pk_us]
          · have z0 : f = 0 := by omega
            rw [z0, pk_un (by omega), pk_un (by omega)]
            exact pk_us
      · rw [pk_un (by omega), pk_un (by omega), pk_un (by omega)]
    · have e : cnt = 16 := by omega
      subst e
      unfold wpX_node
      refine fx_ty_y ha (br_f (by decide) (br_f (by decide) ?_))
      unfold wpY_node
      exact fy_ty_y ha (br_f (by decide) (br_t (by decide) ⟨rfl, J⟩))
theorem i_vc_nodes {k : Nat} {u : SX} {v : SY} (I : i_Rel k u v) (hk : k + 4 ≤ 2048) : wpX_nodes (fun r => wpY_nodes (fun r' => r' = r ∧ i_Rel (k + 4) u v) v) u := by
  have J := i_up I
  obtain ⟨nC, mC, pC, LT, TL, CA, TA, VA, SN, SC, ST, SV, PL, PR, IM⟩ := u
  obtain ⟨cn, mk, BE, CL, TY, VL, FR, IG, PE, KE⟩ := v
  obtain ⟨lo, q, cnt, c, t, w, F, l1, l2, W, rfl, rfl, P1, P2, hq, rfl, rfl, M⟩ := I
  unfold wpX_nodes wpY_nodes
  exact ⟨rfl, J⟩
