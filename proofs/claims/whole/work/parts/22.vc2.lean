/-! unify and unifiable -/
theorem fu_PC_g {cnt : Nat} {g c1 t1 : Nat → Nat} {v1 : Nat → Nat → Option Nat} {A T V : Nat → Int32} (E : ∀ p, p < cnt → g p = c1 p) (P : fu_PC cnt g t1 v1 A T V) : fu_PC cnt c1 t1 v1 A T V :=
  ⟨fun p hp => by rw [← E p hp]; exact P.1 p hp, fun p hp e => P.2.1 p hp ((E p hp).trans e), fun p f hp e hf => P.2.2 p f hp ((E p hp).trans e) hf⟩
theorem i_vc_unify {k : Nat} {u : SX} {v : SY} (I : i_Rel k u v) (hk : k + 4 ≤ 2048) (v1 : Int32) (v2 : Int32) : wpX_unify (fun r u' => wpY_unify (fun r' v' => r' = r ∧ i_Rel (k + 4) u' v') v v1 v2) u v1 v2 := by
  have J := i_up I
  obtain ⟨nC, mC, pC, LT, TL, CA, TA, VA, SN, SC, ST, SV, PL, PR, IM⟩ := u
  obtain ⟨cn, mk, BE, CL, TY, VL, FR, IG, PE, KE⟩ := v
  obtain ⟨lo, q, cnt, c, t, w, F, l1, l2, W, rfl, rfl, P1, P2, hq, rfl, rfl, M⟩ := I
  have w1 := W.1
  have A : ∀ x y : Int32, (x < 0 ∨ nI cnt ≤ x) → wpX_unify (fun r u' => wpY_unify (fun r' v' => r' = r ∧ i_Rel (k + 4) u' v') ((nI cnt), (nI q), BE, CL, TY, VL, FR, IG, PE, KE) x y) ((nI cnt), (nI q), pC, LT, TL, CA, TA, VA, SN, SC, ST, SV, PL, PR, IM) x y := by
    intro x y h
    unfold wpX_unify
    refine fx_no_n h (br_t rfl ?_)
    unfold wpY_unify
    exact fy_no_n h (br_t rfl ⟨rfl, J⟩)
  rcases pk_ix v1 (n := cnt) (by omega) with h | h | ⟨a, ha, rfl⟩
  · exact A v1 v2 (Or.inl h)
  · exact A v1 v2 (Or.inr h)
  · have B : ∀ x : Int32, (x < 0 ∨ nI cnt ≤ x) → wpX_unify (fun r u' => wpY_unify (fun r' v' => r' = r ∧ i_Rel (k + 4) u' v') ((nI cnt), (nI q), BE, CL, TY, VL, FR, IG, PE, KE) (nI a) x) ((nI cnt), (nI q), pC, LT, TL, CA, TA, VA, SN, SC, ST, SV, PL, PR, IM) (nI a) x := by
      intro x h
      unfold wpX_unify
      refine fx_no_y ha w1 (br_f (by decide) (fx_no_n h (br_t rfl ?_)))
      unfold wpY_unify
      exact fy_no_y ha w1 (br_f (by decide) (fy_no_n h (br_t rfl ⟨rfl, J⟩)))
    rcases pk_ix v2 (n := cnt) (by omega) with h | h | ⟨b, hb, rfl⟩
    · exact B v2 (Or.inl h)
    · exact B v2 (Or.inr h)
    · unfold wpX_unify
      refine fx_no_y ha w1 (br_f (by decide) (fx_no_y hb w1 (br_f (by decide) (fx_sv (s := 6) (by omega) ?_))))
      refine fx_mo W F l1 ha hb P1 (fun bad pC' CA' TA' VA' PL' PR' => ?_) (fun c1 t1 v1 L R a' pc X ha' pC' CA' TA' VA' PL' PR' PX => ?_)
      · refine br_t rfl (fx_rs (s := 6) (by omega) ?_)
        rw [pk_us]
        unfold wpY_unify
        refine fy_no_y ha w1 (br_f (by decide) (fy_no_y hb w1 (br_f (by decide) (fy_tu W P2 l2 ha hb (fun g FR' G FF H => ?_) (fun g FR' G H => ?_)))))
        · obtain ⟨p, hp, z⟩ := fu_Bad_0 bad G
          obtain ⟨s, S, nz⟩ := H p hp
          exact absurd (z s S) nz
        · refine br_t rfl ⟨rfl, fu_Ri F l1 l2 W (fu_PC_cg w1 P1 (fun j hj => ?_) (fun j hj => ?_) (fun j hj => ?_)) P2 hq (fu_MS_6 M hq)⟩
          · rw [fu_ri_in hj, fu_ci_in hj]
          · rw [fu_ri_in hj, fu_ci_in hj]
          · rw [fu_ri_in hj, fu_ci_in hj]
      · obtain ⟨Lx, Wx⟩ := fu_Xe W X ha'
        refine br_f (by decide) (fx_cc w1 (fun p hp => (Wx.2.1 p hp).1) PX.1 ?_)
        unfold wpY_unify
        refine fy_no_y ha w1 (br_f (by decide) (fy_no_y hb w1 (br_f (by decide) (fy_tu W P2 l2 ha hb (fun g FR' G FF H => ?_) (fun g FR' G H => ?_)))))
        · have E : ∀ p, p < cnt → g p = c1 p := fun p hp => fu_Lc_u G Lx hp
          refine br_f (by decide) ⟨cnt + 1, fy_un32 (t1 := t1) (v1 := v1) W P2 l2 (fun p hp => (G.1 p hp).1) FF (fun p s hp ep S => ?_) (fun p f o hp ep hf S => ?_) (fun CL' TY' VL' IG' PE' PG => ?_) (cnt + 1) 0 IG (by omega) (by omega) (fun p hp => by omega)⟩
          · have ep1 : c1 p = p := (E p hp).symm.trans ep
            rw [fu_t_lo F.1 X E hp ep1 S, fu_gs F.1 F.2.1 (Wx.2.2.1 p hp ep1)]
          · exact fu_v_s W X ha' E hp ((E p hp).symm.trans ep) hf S
          · exact ⟨by rw [fu_ld_cg E], fu_Ri F l1 l2 Wx PX (fu_PC_g E PG) hq (fu_MS_6 M hq)⟩
        · have E : ∀ p, p < cnt → g p = c1 p := fun p hp => fu_Lc_u G Lx hp
          obtain ⟨p, hp, S⟩ := H
          exact absurd rfl (fu_t_nz F.1 X E hp S)
theorem i_vc_unifiable {k : Nat} {u : SX} {v : SY} (I : i_Rel k u v) (hk : k + 4 ≤ 2048) (v1 : Int32) (v2 : Int32) : wpX_unifiable (fun r u' => wpY_unifiable (fun r' v' => r' = r ∧ i_Rel (k + 4) u' v') v v1 v2) u v1 v2 := by
  have J := i_up I
  obtain ⟨nC, mC, pC, LT, TL, CA, TA, VA, SN, SC, ST, SV, PL, PR, IM⟩ := u
  obtain ⟨cn, mk, BE, CL, TY, VL, FR, IG, PE, KE⟩ := v
  obtain ⟨lo, q, cnt, c, t, w, F, l1, l2, W, rfl, rfl, P1, P2, hq, rfl, rfl, M⟩ := I
  have w1 := W.1
  have A : ∀ x y : Int32, (x < 0 ∨ nI cnt ≤ x) → wpX_unifiable (fun r u' => wpY_unifiable (fun r' v' => r' = r ∧ i_Rel (k + 4) u' v') ((nI cnt), (nI q), BE, CL, TY, VL, FR, IG, PE, KE) x y) ((nI cnt), (nI q), pC, LT, TL, CA, TA, VA, SN, SC, ST, SV, PL, PR, IM) x y := by
    intro x y h
    unfold wpX_unifiable
    refine fx_no_n h (br_t rfl ?_)
    unfold wpY_unifiable
    exact fy_no_n h (br_t rfl ⟨rfl, J⟩)
  rcases pk_ix v1 (n := cnt) (by omega) with h | h | ⟨a, ha, rfl⟩
  · exact A v1 v2 (Or.inl h)
  · exact A v1 v2 (Or.inr h)
  · have B : ∀ x : Int32, (x < 0 ∨ nI cnt ≤ x) → wpX_unifiable (fun r u' => wpY_unifiable (fun r' v' => r' = r ∧ i_Rel (k + 4) u' v') ((nI cnt), (nI q), BE, CL, TY, VL, FR, IG, PE, KE) (nI a) x) ((nI cnt), (nI q), pC, LT, TL, CA, TA, VA, SN, SC, ST, SV, PL, PR, IM) (nI a) x := by
      intro x h
      unfold wpX_unifiable
      refine fx_no_y ha w1 (br_f (by decide) (fx_no_n h (br_t rfl ?_)))
      unfold wpY_unifiable
      exact fy_no_y ha w1 (br_f (by decide) (fy_no_n h (br_t rfl ⟨rfl, J⟩)))
    rcases pk_ix v2 (n := cnt) (by omega) with h | h | ⟨b, hb, rfl⟩
    · exact B v2 (Or.inl h)
    · exact B v2 (Or.inr h)
    · have R : ∀ CA' TA' VA' : Nat → Int32, fu_PC cnt c t w (fu_ri (fu_ci CA (6 * 16) 0 16 SC) (6 * 16) 0 16 CA') (fu_ri (fu_ci TA (6 * 16) 0 16 ST) (6 * 16) 0 16 TA') (fu_ri (fu_ci VA (6 * 48) 0 48 SV) (6 * 48) 0 48 VA') := fun CA' TA' VA' =>
        fu_PC_cg w1 P1 (fun j hj => by rw [fu_ri_in hj, fu_ci_in hj]) (fun j hj => by rw [fu_ri_in hj, fu_ci_in hj]) (fun j hj => by rw [fu_ri_in hj, fu_ci_in hj])
      unfold wpX_unifiable
      refine fx_no_y ha w1 (br_f (by decide) (fx_no_y hb w1 (br_f (by decide) (fx_sv (s := 6) (by omega) ?_))))
      refine fx_mo W F l1 ha hb P1 (fun bad pC' CA' TA' VA' PL' PR' => ?_) (fun c1 t1 v1 L R2 a' pc X ha' pC' CA' TA' VA' PL' PR' PX => ?_)
      · refine fx_rs (s := 6) (by omega) ⟨rfl, ?_⟩
        rw [pk_us]
        unfold wpY_unifiable
        refine fy_no_y ha w1 (br_f (by decide) (fy_no_y hb w1 (br_f (by decide) (fy_tu W P2 l2 ha hb (fun g FR' G FF H => ?_) (fun g FR' G H => ?_)))))
        · obtain ⟨p, hp, z⟩ := fu_Bad_0 bad G
          obtain ⟨s, S, nz⟩ := H p hp
          exact absurd (z s S) nz
        · exact br_t rfl ⟨rfl, fu_Ri F l1 l2 W (R CA' TA' VA') P2 hq (fu_MS_6 M hq)⟩
      · obtain ⟨Lx, Wx⟩ := fu_Xe W X ha'
        refine fx_rs (s := 6) (by omega) ⟨rfl, ?_⟩
        rw [pk_us]
        unfold wpY_unifiable
        refine fy_no_y ha w1 (br_f (by decide) (fy_no_y hb w1 (br_f (by decide) (fy_tu W P2 l2 ha hb (fun g FR' G FF H => ?_) (fun g FR' G H => ?_)))))
        · exact br_f (by decide) ⟨rfl, fu_Ri F l1 l2 W (R CA' TA' VA') P2 hq (fu_MS_6 M hq)⟩
        · have E : ∀ p, p < cnt → g p = c1 p := fun p hp => fu_Lc_u G Lx hp
          obtain ⟨p, hp, S⟩ := H
          exact absurd rfl (fu_t_nz F.1 X E hp S)
