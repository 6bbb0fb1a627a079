/-! the rest -/
theorem i_vc_arc {k : Nat} {u : SX} {v : SY} (I : i_Rel k u v) (hk : k + 4 ≤ 2048) (v1 : Int32) (v2 : Int32) (v3 : Int32) : wpX_arc (fun r u' => wpY_arc (fun r' v' => r' = r ∧ i_Rel (k + 4) u' v') v v1 v2 v3) u v1 v2 v3 := by
  have J := i_up I
  obtain ⟨nC, mC, pC, LT, TL, CA, TA, VA, SN, SC, ST, SV, PL, PR, IM⟩ := u
  obtain ⟨cn, mk, BE, CL, TY, VL, FR, IG, PE, KE⟩ := v
  obtain ⟨lo, q, cnt, c, t, w, F, l1, l2, W, rfl, rfl, P1, P2, hq, rfl, rfl, M⟩ := I
  have w1 := W.1
  have A : ∀ x y z : Int32, (x < 0 ∨ nI cnt ≤ x) → wpX_arc (fun r u' => wpY_arc (fun r' v' => r' = r ∧ i_Rel (k + 4) u' v') ((nI cnt), (nI q), BE, CL, TY, VL, FR, IG, PE, KE) x y z) ((nI cnt), (nI q), pC, LT, TL, CA, TA, VA, SN, SC, ST, SV, PL, PR, IM) x y z := by
    intro x y z h
    unfold wpX_arc
    refine fx_no_n h (br_t rfl ?_)
    unfold wpY_arc
    exact fy_no_n h (br_t rfl ⟨rfl, J⟩)
  rcases pk_ix v1 (n := cnt) (by omega) with h | h | ⟨a, ha, rfl⟩
  · exact A v1 v2 v3 (Or.inl h)
  · exact A v1 v2 v3 (Or.inr h)
  · have B : ∀ y x : Int32, (x < 0 ∨ nI cnt ≤ x) → wpX_arc (fun r u' => wpY_arc (fun r' v' => r' = r ∧ i_Rel (k + 4) u' v') ((nI cnt), (nI q), BE, CL, TY, VL, FR, IG, PE, KE) (nI a) y x) ((nI cnt), (nI q), pC, LT, TL, CA, TA, VA, SN, SC, ST, SV, PL, PR, IM) (nI a) y x := by
      intro y x h
      unfold wpX_arc
      refine fx_no_y ha w1 (br_f (by decide) (fx_no_n h (br_t rfl ?_)))
      unfold wpY_arc
      exact fy_no_y ha w1 (br_f (by decide) (fy_no_n h (br_t rfl ⟨rfl, J⟩)))
    rcases pk_ix v3 (n := cnt) (by omega) with h | h | ⟨b, hb, rfl⟩
    · exact B v2 v3 (Or.inl h)
    · exact B v2 v3 (Or.inr h)
    · have wa := W.2.1 a ha
      have wb := W.2.1 b hb
      rcases pk_ix v2 (n := 3) (by decide) with h | h | ⟨f, hf, rfl⟩
      · unfold wpX_arc
        refine fx_no_y ha w1 (br_f (by decide) (fx_no_y hb w1 (br_f (by decide) (fx_fe_n (Or.inl h) (br_t rfl ?_)))))
        unfold wpY_arc
        exact fy_no_y ha w1 (br_f (by decide) (fy_no_y hb w1 (br_f (by decide) (br_t h ⟨rfl, J⟩))))
      · unfold wpX_arc
        refine fx_no_y ha w1 (br_f (by decide) (fx_no_y hb w1 (br_f (by decide) (fx_fe_n (Or.inr h) (br_t rfl ?_)))))
        unfold wpY_arc
        refine fy_no_y ha w1 (br_f (by decide) (fy_no_y hb w1 (br_f (by decide) (br_c (fun _ => ⟨rfl, J⟩) (fun h0 => ?_)))))
        obtain ⟨j, hj, rfl⟩ := nI_of h0
        rw [nI_leI (by omega) hj] at h
        exact br_f (nI_ge (a := 2) (b := j) (by omega) hj) ⟨rfl, J⟩
      · unfold wpX_arc
        refine fx_no_y ha w1 (br_f (by decide) (fx_no_y hb w1 (br_f (by decide) (fx_fe_y hf (br_f (by decide) ⟨vp_in_nI (by omega) (by decide), ?_⟩)))))
        rw [nI_clamp (show a < 2 ^ 31 by omega), nI_clamp (show b < 2 ^ 31 by omega), P1.1 a ha, P1.1 b hb]
        refine nm_r (fu_a1 (c a) f) ⟨vp_in_nI (by omega) (by decide), ?_⟩
        rw [nI_clamp (show 3 * c a + f < 2 ^ 31 by omega), P1.2.2 (c a) f (by omega) wa.2 hf]
        cases x : w (c a) f with
        | none =>
          refine br_t rfl ⟨vp_in_nI (by omega) (by decide), vp_in_nI (by omega) (by decide), nm_e ?_⟩
          unfold wpY_arc
          refine fy_no_y ha w1 (br_f (by decide) (fy_no_y hb w1 (br_f (by decide) (br_f (nI_pos (by omega)) (br_t (nI_le (b := 2) (by omega) (by decide)) ⟨vp_in_nI (by omega) (by decide), ?_⟩)))))
          rw [nI_clamp (show a < 2 ^ 31 by omega), nI_clamp (show b < 2 ^ 31 by omega), P2.1 a ha, P2.1 b hb, fu_a2 (c a) f]
          refine ⟨vp_in_nI (by omega) (by decide), ?_⟩
          rw [nI_clamp (show 3 * c a + f < 2 ^ 31 by omega), P2.2.2 (c a) f (by omega) wa.2 hf, x]
          exact br_t rfl ⟨vp_in_nI (by omega) (by decide), vp_in_nI (by omega) (by decide), vp_in_nI (by omega) (by decide), nm_e ⟨rfl, fu_Ri F l1 l2 (fu_ar_W W (x := c a) (g := f) (by omega) wb.2) (fu_ar_P P1 hf) (fu_ar_P P2 hf) hq M⟩⟩
        | some d =>
          have kd := W.2.2.2 (c a) f d (by omega) wa.2 hf x
          refine br_f (fu_ne (by omega)) ?_
          unfold wpY_arc
          refine fy_no_y ha w1 (br_f (by decide) (fy_no_y hb w1 (br_f (by decide) (br_f (nI_pos (by omega)) (br_t (nI_le (b := 2) (by omega) (by decide)) ⟨vp_in_nI (by omega) (by decide), ?_⟩)))))
          rw [nI_clamp (show a < 2 ^ 31 by omega), nI_clamp (show b < 2 ^ 31 by omega), P2.1 a ha, P2.1 b hb, fu_a2 (c a) f]
          refine ⟨vp_in_nI (by omega) (by decide), ?_⟩
          rw [nI_clamp (show 3 * c a + f < 2 ^ 31 by omega), P2.2.2 (c a) f (by omega) wa.2 hf, x]
          exact br_f (fu_ne (by omega)) ⟨rfl, J⟩
theorem i_vc_classOf {k : Nat} {u : SX} {v : SY} (I : i_Rel k u v) (hk : k + 4 ≤ 2048) (v1 : Int32) : wpX_classOf (fun r => wpY_classOf (fun r' => r' = r ∧ i_Rel (k + 4) u v) v v1) u v1 := by
  have J := i_up I
  obtain ⟨nC, mC, pC, LT, TL, CA, TA, VA, SN, SC, ST, SV, PL, PR, IM⟩ := u
  obtain ⟨cn, mk, BE, CL, TY, VL, FR, IG, PE, KE⟩ := v
  obtain ⟨lo, q, cnt, c, t, w, F, l1, l2, W, rfl, rfl, P1, P2, hq, rfl, rfl, M⟩ := I
  have w1 := W.1
  have A : ∀ x : Int32, (x < 0 ∨ nI cnt ≤ x) → wpX_classOf (fun r => wpY_classOf (fun r' => r' = r ∧ i_Rel (k + 4) ((nI cnt), (nI q), pC, LT, TL, CA, TA, VA, SN, SC, ST, SV, PL, PR, IM) ((nI cnt), (nI q), BE, CL, TY, VL, FR, IG, PE, KE)) ((nI cnt), (nI q), BE, CL, TY, VL, FR, IG, PE, KE) x) ((nI cnt), (nI q), pC, LT, TL, CA, TA, VA, SN, SC, ST, SV, PL, PR, IM) x := by
    intro x h
    unfold wpX_classOf
    refine fx_no_n h (br_t rfl ?_)
    unfold wpY_classOf
    exact fy_no_n h (br_t rfl ⟨rfl, J⟩)
  rcases pk_ix v1 (n := cnt) (by omega) with h | h | ⟨a, ha, rfl⟩
  · exact A v1 (Or.inl h)
  · exact A v1 (Or.inr h)
  · unfold wpX_classOf
    refine fx_no_y ha w1 (br_f (by decide) ⟨vp_in_nI (by omega) (by decide), ?_⟩)
    rw [nI_clamp (show a < 2 ^ 31 by omega), P1.1 a ha]
    unfold wpY_classOf
    refine fy_no_y ha w1 (br_f (by decide) ⟨vp_in_nI (by omega) (by decide), ?_⟩)
    rw [nI_clamp (show a < 2 ^ 31 by omega), P2.1 a ha]
    exact ⟨rfl, J⟩
theorem i_vc_typeOf {k : Nat} {u : SX} {v : SY} (I : i_Rel k u v) (hk : k + 4 ≤ 2048) (v1 : Int32) : wpX_typeOf (fun r => wpY_typeOf (fun r' => r' = r ∧ i_Rel (k + 4) u v) v v1) u v1 := by
  have J := i_up I
  obtain ⟨nC, mC, pC, LT, TL, CA, TA, VA, SN, SC, ST, SV, PL, PR, IM⟩ := u
  obtain ⟨cn, mk, BE, CL, TY, VL, FR, IG, PE, KE⟩ := v
  obtain ⟨lo, q, cnt, c, t, w, F, l1, l2, W, rfl, rfl, P1, P2, hq, rfl, rfl, M⟩ := I
  have w1 := W.1
  have A : ∀ x : Int32, (x < 0 ∨ nI cnt ≤ x) → wpX_typeOf (fun r => wpY_typeOf (fun r' => r' = r ∧ i_Rel (k + 4) ((nI cnt), (nI q), pC, LT, TL, CA, TA, VA, SN, SC, ST, SV, PL, PR, IM) ((nI cnt), (nI q), BE, CL, TY, VL, FR, IG, PE, KE)) ((nI cnt), (nI q), BE, CL, TY, VL, FR, IG, PE, KE) x) ((nI cnt), (nI q), pC, LT, TL, CA, TA, VA, SN, SC, ST, SV, PL, PR, IM) x := by
    intro x h
    unfold wpX_typeOf
    refine fx_no_n h (br_t rfl ?_)
    unfold wpY_typeOf
    exact fy_no_n h (br_t rfl ⟨rfl, J⟩)
  rcases pk_ix v1 (n := cnt) (by omega) with h | h | ⟨a, ha, rfl⟩
  · exact A v1 (Or.inl h)
  · exact A v1 (Or.inr h)
  · have wa := W.2.1 a ha
    unfold wpX_typeOf
    refine fx_no_y ha w1 (br_f (by decide) ⟨vp_in_nI (by omega) (by decide), ?_⟩)
    rw [nI_clamp (show a < 2 ^ 31 by omega), P1.1 a ha]
    refine ⟨vp_in_nI (by omega) (by decide), ?_⟩
    rw [nI_clamp (show c a < 2 ^ 31 by omega), P1.2.1 (c a) (by omega) wa.2]
    unfold wpY_typeOf
    refine fy_no_y ha w1 (br_f (by decide) ⟨vp_in_nI (by omega) (by decide), ?_⟩)
    rw [nI_clamp (show a < 2 ^ 31 by omega), P2.1 a ha]
    refine ⟨vp_in_nI (by omega) (by decide), ?_⟩
    rw [nI_clamp (show c a < 2 ^ 31 by omega), P2.2.1 (c a) (by omega) wa.2]
    exact ⟨rfl, J⟩
theorem i_vc_value {k : Nat} {u : SX} {v : SY} (I : i_Rel k u v) (hk : k + 4 ≤ 2048) (v1 : Int32) (v2 : Int32) : wpX_value (fun r => wpY_value (fun r' => r' = r ∧ i_Rel (k + 4) u v) v v1 v2) u v1 v2 := by
  have J := i_up I
  obtain ⟨nC, mC, pC, LT, TL, CA, TA, VA, SN, SC, ST, SV, PL, PR, IM⟩ := u
  obtain ⟨cn, mk, BE, CL, TY, VL, FR, IG, PE, KE⟩ := v
  obtain ⟨lo, q, cnt, c, t, w, F, l1, l2, W, rfl, rfl, P1, P2, hq, rfl, rfl, M⟩ := I
  have w1 := W.1
  have A : ∀ x y : Int32, (x < 0 ∨ nI cnt ≤ x) → wpX_value (fun r => wpY_value (fun r' => r' = r ∧ i_Rel (k + 4) ((nI cnt), (nI q), pC, LT, TL, CA, TA, VA, SN, SC, ST, SV, PL, PR, IM) ((nI cnt), (nI q), BE, CL, TY, VL, FR, IG, PE, KE)) ((nI cnt), (nI q), BE, CL, TY, VL, FR, IG, PE, KE) x y) ((nI cnt), (nI q), pC, LT, TL, CA, TA, VA, SN, SC, ST, SV, PL, PR, IM) x y := by
    intro x y h
    unfold wpX_value
    refine fx_no_n h (br_t rfl ?_)
    unfold wpY_value
    exact fy_no_n h (br_t rfl ⟨rfl, J⟩)
  rcases pk_ix v1 (n := cnt) (by omega) with h | h | ⟨a, ha, rfl⟩
  · exact A v1 v2 (Or.inl h)
  · exact A v1 v2 (Or.inr h)
  · have wa := W.2.1 a ha
    rcases pk_ix v2 (n := 3) (by decide) with h | h | ⟨f, hf, rfl⟩
    · unfold wpX_value
      refine fx_no_y ha w1 (br_f (by decide) (fx_fe_n (Or.inl h) (br_t rfl ?_)))
      unfold wpY_value
      exact fy_no_y ha w1 (br_f (by decide) (br_t h ⟨rfl, J⟩))
    · unfold wpX_value
      refine fx_no_y ha w1 (br_f (by decide) (fx_fe_n (Or.inr h) (br_t rfl ?_)))
      unfold wpY_value
      refine fy_no_y ha w1 (br_f (by decide) (br_c (fun _ => ⟨rfl, J⟩) (fun h0 => ?_)))
      obtain ⟨j, hj, rfl⟩ := nI_of h0
      rw [nI_leI (by omega) hj] at h
      exact br_t (nI_lt (a := 2) (by omega) hj) ⟨rfl, J⟩
    · unfold wpX_value
      refine fx_no_y ha w1 (br_f (by decide) (fx_fe_y hf (br_f (by decide) ⟨vp_in_nI (by omega) (by decide), ?_⟩)))
      rw [nI_clamp (show a < 2 ^ 31 by omega), P1.1 a ha, fu_a1 (c a) f]
      refine ⟨vp_in_nI (by omega) (by decide), ?_⟩
      rw [nI_clamp (show 3 * c a + f < 2 ^ 31 by omega), P1.2.2 (c a) f (by omega) wa.2 hf]
      unfold wpY_value
      refine fy_no_y ha w1 (br_f (by decide) (br_f (nI_pos (by omega)) (br_f (nI_nlt (a := 2) (b := f) (by omega) (by decide)) ⟨vp_in_nI (by omega) (by decide), ?_⟩)))
      rw [nI_clamp (show a < 2 ^ 31 by omega), P2.1 a ha, fu_a2 (c a) f]
      refine ⟨vp_in_nI (by omega) (by decide), ?_⟩
      rw [nI_clamp (show 3 * c a + f < 2 ^ 31 by omega), P2.2.2 (c a) f (by omega) wa.2 hf]
      exact ⟨rfl, J⟩
theorem i_vc_classes {k : Nat} {u : SX} {v : SY} (I : i_Rel k u v) (hk : k + 4 ≤ 2048) : wpX_classes (fun r => wpY_classes (fun r' => r' = r ∧ i_Rel (k + 4) u v) v) u := by
  have J := i_up I
  obtain ⟨nC, mC, pC, LT, TL, CA, TA, VA, SN, SC, ST, SV, PL, PR, IM⟩ := u
  obtain ⟨cn, mk, BE, CL, TY, VL, FR, IG, PE, KE⟩ := v
  obtain ⟨lo, q, cnt, c, t, w, F, l1, l2, W, rfl, rfl, P1, P2, hq, rfl, rfl, M⟩ := I
  unfold wpX_classes
  exact fx_cc W.1 (fun p hp => (W.2.1 p hp).1) P1.1 (fy_cl W.1 (fun p hp => (W.2.1 p hp).1) P2.1 ⟨rfl, J⟩)
theorem i_vc_reach {k : Nat} {u : SX} {v : SY} (I : i_Rel k u v) (hk : k + 4 ≤ 2048) (v1 : Int32) : wpX_reach (fun r => wpY_reach (fun r' => r' = r ∧ i_Rel (k + 4) u v) v v1) u v1 := by
  have J := i_up I
  obtain ⟨nC, mC, pC, LT, TL, CA, TA, VA, SN, SC, ST, SV, PL, PR, IM⟩ := u
  obtain ⟨cn, mk, BE, CL, TY, VL, FR, IG, PE, KE⟩ := v
  obtain ⟨lo, q, cnt, c, t, w, F, l1, l2, W, rfl, rfl, P1, P2, hq, rfl, rfl, M⟩ := I
  have w1 := W.1
  have A : ∀ x : Int32, (x < 0 ∨ nI cnt ≤ x) → wpX_reach (fun r => wpY_reach (fun r' => r' = r ∧ i_Rel (k + 4) ((nI cnt), (nI q), pC, LT, TL, CA, TA, VA, SN, SC, ST, SV, PL, PR, IM) ((nI cnt), (nI q), BE, CL, TY, VL, FR, IG, PE, KE)) ((nI cnt), (nI q), BE, CL, TY, VL, FR, IG, PE, KE) x) ((nI cnt), (nI q), pC, LT, TL, CA, TA, VA, SN, SC, ST, SV, PL, PR, IM) x := by
    intro x h
    unfold wpX_reach
    refine fx_no_n h (br_t rfl ?_)
    unfold wpY_reach
    exact fy_no_n h (br_t rfl ⟨rfl, J⟩)
  rcases pk_ix v1 (n := cnt) (by omega) with h | h | ⟨a, ha, rfl⟩
  · exact A v1 (Or.inl h)
  · exact A v1 (Or.inr h)
  · exact fx_re W P1 ha (fun s S D => fy_re W P2 ha (fun s' S' D' => ⟨by rw [fu_Rs_eq S S' D D'], J⟩))
theorem i_vc_subsumes {k : Nat} {u : SX} {v : SY} (I : i_Rel k u v) (hk : k + 4 ≤ 2048) (v1 : Int32) (v2 : Int32) : wpX_subsumes (fun r u' => wpY_subsumes (fun r' v' => r' = r ∧ i_Rel (k + 4) u' v') v v1 v2) u v1 v2 := by
  have J := i_up I
  obtain ⟨nC, mC, pC, LT, TL, CA, TA, VA, SN, SC, ST, SV, PL, PR, IM⟩ := u
  obtain ⟨cn, mk, BE, CL, TY, VL, FR, IG, PE, KE⟩ := v
  obtain ⟨lo, q, cnt, c, t, w, F, l1, l2, W, rfl, rfl, P1, P2, hq, rfl, rfl, M⟩ := I
  have w1 := W.1
  have A : ∀ x y : Int32, (x < 0 ∨ nI cnt ≤ x) → wpX_subsumes (fun r u' => wpY_subsumes (fun r' v' => r' = r ∧ i_Rel (k + 4) u' v') ((nI cnt), (nI q), BE, CL, TY, VL, FR, IG, PE, KE) x y) ((nI cnt), (nI q), pC, LT, TL, CA, TA, VA, SN, SC, ST, SV, PL, PR, IM) x y := by
    intro x y h
    unfold wpX_subsumes
    refine fx_no_n h (br_t rfl ?_)
    unfold wpY_subsumes
    exact fy_no_n h (br_t rfl ⟨rfl, J⟩)
  rcases pk_ix v1 (n := cnt) (by omega) with h | h | ⟨a, ha, rfl⟩
  · exact A v1 v2 (Or.inl h)
  · exact A v1 v2 (Or.inr h)
  · have B : ∀ x : Int32, (x < 0 ∨ nI cnt ≤ x) → wpX_subsumes (fun r u' => wpY_subsumes (fun r' v' => r' = r ∧ i_Rel (k + 4) u' v') ((nI cnt), (nI q), BE, CL, TY, VL, FR, IG, PE, KE) (nI a) x) ((nI cnt), (nI q), pC, LT, TL, CA, TA, VA, SN, SC, ST, SV, PL, PR, IM) (nI a) x := by
      intro x h
      unfold wpX_subsumes
      refine fx_no_y ha w1 (br_f (by decide) (fx_no_n h (br_t rfl ?_)))
      unfold wpY_subsumes
      exact fy_no_y ha w1 (br_f (by decide) (fy_no_n h (br_t rfl ⟨rfl, J⟩)))
    rcases pk_ix v2 (n := cnt) (by omega) with h | h | ⟨b, hb, rfl⟩
    · exact B v2 (Or.inl h)
    · exact B v2 (Or.inr h)
    · have wa := W.2.1 a ha
      have wb := W.2.1 b hb
      have e := fu_it_16 (lo := lo) W (fu_i0_ok (x := c a) (y := c b) (by omega) wa.2 (by omega) wb.2) (p := c a) (h := c b) (if_pos rfl)
      exact fx_su W P1 l1 ha hb (fun IM' => fy_su W P2 l2 ha hb (fun IG' => ⟨by rw [e], fu_Ri F l1 l2 W P1 P2 hq M⟩))
theorem i_vc_mark {k : Nat} {u : SX} {v : SY} (I : i_Rel k u v) (hk : k + 4 ≤ 2048) : wpX_mark (fun r u' => wpY_mark (fun r' v' => r' = r ∧ i_Rel (k + 4) u' v') v) u := by
  have J := i_up I
  obtain ⟨nC, mC, pC, LT, TL, CA, TA, VA, SN, SC, ST, SV, PL, PR, IM⟩ := u
  obtain ⟨cn, mk, BE, CL, TY, VL, FR, IG, PE, KE⟩ := v
  obtain ⟨lo, q, cnt, c, t, w, F, l1, l2, W, rfl, rfl, P1, P2, hq, rfl, rfl, M⟩ := I
  by_cases h6 : q < 6
  · unfold wpX_mark
    refine br_t (nI_lt (b := 6) h6 (by decide)) (fx_sv (by omega) (nm_r (nI_1 q) ?_))
    exact fy_mk h6 (fun KE' h1 h2 h3 h4 h5 => ⟨rfl, fu_Ri F l1 l2 W P1 P2 (by omega) (fu_MS_s M W P1 P2 h1 h2 h3 h4 h5)⟩)
  · have e : q = 6 := by omega
    subst e
    unfold wpX_mark
    refine br_f (by decide) ?_
    unfold wpY_mark
    exact br_t (by decide) ⟨rfl, J⟩
theorem i_vc_back {k : Nat} {u : SX} {v : SY} (I : i_Rel k u v) (hk : k + 4 ≤ 2048) : wpX_back (fun r u' => wpY_back (fun r' v' => r' = r ∧ i_Rel (k + 4) u' v') v) u := by
  have J := i_up I
  obtain ⟨nC, mC, pC, LT, TL, CA, TA, VA, SN, SC, ST, SV, PL, PR, IM⟩ := u
  obtain ⟨cn, mk, BE, CL, TY, VL, FR, IG, PE, KE⟩ := v
  obtain ⟨lo, q, cnt, c, t, w, F, l1, l2, W, rfl, rfl, P1, P2, hq, rfl, rfl, M⟩ := I
  cases q with
  | zero =>
    unfold wpX_back
    refine br_f (by decide) ?_
    unfold wpY_back
    exact br_t (by decide) ⟨rfl, J⟩
  | succ s =>
    unfold wpX_back
    refine br_t (nI_lt (a := 0) (by omega) (by omega)) (nm_r (nI_pred s) (fx_rs (by omega) ?_))
    refine fy_ba (by omega) ⟨rfl, ?_⟩
    obtain ⟨cnt2, c2, t2, v2, W2, e1, e2, Q1, Q2⟩ := M s (by omega)
    rw [e1, e2]
    exact fu_Ri F l1 l2 W2 (fu_PC_cg W2.1 Q1 (fun j hj => fu_ri_in hj) (fun j hj => fu_ri_in hj) (fun j hj => fu_ri_in hj)) (fu_PC_cg W2.1 Q2 (fun j hj => fu_ri_in hj) (fun j hj => fu_ri_in hj) (fun j hj => fu_ri_in hj)) (by omega) (fu_MS_le M (by omega))
theorem i_vc_keep {k : Nat} {u : SX} {v : SY} (I : i_Rel k u v) (hk : k + 4 ≤ 2048) : wpX_keep (fun r u' => wpY_keep (fun r' v' => r' = r ∧ i_Rel (k + 4) u' v') v) u := by
  have J := i_up I
  obtain ⟨nC, mC, pC, LT, TL, CA, TA, VA, SN, SC, ST, SV, PL, PR, IM⟩ := u
  obtain ⟨cn, mk, BE, CL, TY, VL, FR, IG, PE, KE⟩ := v
  obtain ⟨lo, q, cnt, c, t, w, F, l1, l2, W, rfl, rfl, P1, P2, hq, rfl, rfl, M⟩ := I
  cases q with
  | zero =>
    unfold wpX_keep
    refine br_f (by decide) ?_
    unfold wpY_keep
    exact br_t (by decide) ⟨rfl, J⟩
  | succ s =>
    unfold wpX_keep
    refine br_t (nI_lt (a := 0) (by omega) (by omega)) (nm_r (nI_pred s) ?_)
    unfold wpY_keep
    exact br_f (nI_ne0 (by omega) (by omega)) (nm_r (nI_pred s) ⟨rfl, fu_Ri F l1 l2 W P1 P2 (by omega) (fu_MS_le M (by omega))⟩)
theorem i_vc_marks {k : Nat} {u : SX} {v : SY} (I : i_Rel k u v) (hk : k + 4 ≤ 2048) : wpX_marks (fun r => wpY_marks (fun r' => r' = r ∧ i_Rel (k + 4) u v) v) u := by
  have J := i_up I
  obtain ⟨nC, mC, pC, LT, TL, CA, TA, VA, SN, SC, ST, SV, PL, PR, IM⟩ := u
  obtain ⟨cn, mk, BE, CL, TY, VL, FR, IG, PE, KE⟩ := v
  obtain ⟨lo, q, cnt, c, t, w, F, l1, l2, W, rfl, rfl, P1, P2, hq, rfl, rfl, M⟩ := I
  unfold wpX_marks wpY_marks
  exact ⟨rfl, J⟩
theorem i_vc_clear {k : Nat} {u : SX} {v : SY} (I : i_Rel k u v) (hk : k + 4 ≤ 2048) : wpX_clear (fun u' => wpY_clear (fun v' => i_Rel (k + 4) u' v') v) u := by
  obtain ⟨nC, mC, pC, LT, TL, CA, TA, VA, SN, SC, ST, SV, PL, PR, IM⟩ := u
  obtain ⟨cn, mk, BE, CL, TY, VL, FR, IG, PE, KE⟩ := v
  obtain ⟨lo, q, cnt, c, t, w, F, l1, l2, W, rfl, rfl, P1, P2, hq, rfl, rfl, M⟩ := I
  unfold wpX_clear wpY_clear
  exact fu_Ri (cnt := 0) (q := 0) (c := c) (t := t) (w := w) F l1 l2 ⟨by omega, fun p hp => by omega, fun p hp => by omega, fun p f d hp => by omega⟩ ⟨fun p hp => by omega, fun p hp => by omega, fun p f hp => by omega⟩ ⟨fun p hp => by omega, fun p hp => by omega, fun p f hp => by omega⟩ (by omega) (fun s hs => by omega)
