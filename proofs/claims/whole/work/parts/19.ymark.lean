/-! Y: mark, back; how both begin -/
theorem fu_c16 (a f : Nat) : nI a + 16 + nI f = nI (a + 16 + f) := by rw [← fu_16, nI_add, nI_add]
theorem fu_c32 (a f : Nat) : nI a + 32 + nI f = nI (a + 32 + f) := by rw [← fu_32, nI_add, nI_add]
theorem fu_c80 (a : Nat) : nI a + 80 = nI (a + 80) := by rw [← fu_80, nI_add]
section
variable {cn mk : Int32} {BE CL TY VL FR IG PE KE : Nat → Int32}
theorem fy_mk80 {post : Int32 → SY → Prop} {s : Nat} (hs : s < 6) (KO : Nat → Int32)
    (K : ∀ KE : Nat → Int32, (∀ j, j < 16 → KE (81 * s + j) = CL j) → (∀ j, j < 16 → KE (81 * s + 16 + j) = TY j) → (∀ j, j < 48 → KE (81 * s + 32 + j) = VL j) → (∀ j, j < 81 * s ∨ 81 * s + 80 ≤ j → KE j = KO j) → post (nI (s + 1)) (cn, (nI (s + 1)), BE, CL, TY, VL, FR, IG, PE, KE)) :
    ∀ n i (KE : Nat → Int32), 48 - i < n → i ≤ 48 → (∀ j, j < 16 → KE (81 * s + j) = CL j) → (∀ j, j < 16 → KE (81 * s + 16 + j) = TY j) → (∀ j, j < i → KE (81 * s + 32 + j) = VL j) → (∀ j, j < 81 * s ∨ 81 * s + 80 ≤ j → KE j = KO j) → wY_mark_80 post (nI (81 * s)) cn (nI s) n (nI i) BE CL TY VL FR IG PE KE := by
  intro n
  induction n with
  | zero => intro i KE h; omega
  | succ n ih =>
    intro i KE h hi D1 D2 D3 D4
    rw [wY_mark_80]
    refine pk_le 48 i (fun z => ?_) (fun z => ?_)
    · exact nm_r (nI_1 s) (K KE D1 D2 (fun j hj => D3 j (by omega)) D4)
    · rw [fu_c32 (81 * s) i]
      refine ⟨vp_in_nI z (by decide), vp_in_nI (by omega) (by decide), ?_⟩
      rw [nI_clamp (show 81 * s + 32 + i < 2 ^ 31 by omega), nI_clamp (show i < 2 ^ 31 by omega)]
      refine nm_e (nm_r (nI_1 i) (ih (i + 1) _ (by omega) (by omega) (fun j hj => ?_) (fun j hj => ?_) (fun j hj => ?_) (fun j hj => ?_)))
      · rw [pk_un (by omega)]
        exact D1 j hj
      · rw [pk_un (by omega)]
        exact D2 j hj
      · by_cases w : j = i
        · rw [w, pk_us]
        · rw [pk_un (by omega)]
          exact D3 j (by omega)
      · rw [pk_un (by omega)]
        exact D4 j hj
theorem fy_mk35 {post : Int32 → SY → Prop} {s : Nat} (hs : s < 6) (KO : Nat → Int32)
    (K : ∀ KE : Nat → Int32, (∀ j, j < 16 → KE (81 * s + j) = CL j) → (∀ j, j < 16 → KE (81 * s + 16 + j) = TY j) → (∀ j, j < 48 → KE (81 * s + 32 + j) = VL j) → (∀ j, j < 81 * s ∨ 81 * s + 80 ≤ j → KE j = KO j) → post (nI (s + 1)) (cn, (nI (s + 1)), BE, CL, TY, VL, FR, IG, PE, KE)) :
    ∀ n i (KE : Nat → Int32), 16 - i < n → i ≤ 16 → (∀ j, j < i → KE (81 * s + j) = CL j) → (∀ j, j < i → KE (81 * s + 16 + j) = TY j) → (∀ j, j < 81 * s ∨ 81 * s + 80 ≤ j → KE j = KO j) → wY_mark_35 post (nI (81 * s)) cn (nI s) n (nI i) BE CL TY VL FR IG PE KE := by
  intro n
  induction n with
  | zero => intro i KE h; omega
  | succ n ih =>
    intro i KE h hi D1 D2 D4
    rw [wY_mark_35]
    refine pk_le 16 i (fun z => ?_) (fun z => ?_)
    · exact ⟨49, fy_mk80 hs KO K 49 0 KE (by omega) (by omega) (fun j hj => D1 j (by omega)) (fun j hj => D2 j (by omega)) (fun j hj => by omega) D4⟩
    · rw [fu_c16 (81 * s) i, nI_add (81 * s) i]
      refine ⟨vp_in_nI z (by decide), vp_in_nI (by omega) (by decide), ?_⟩
      rw [nI_clamp (show 81 * s + 16 + i < 2 ^ 31 by omega), nI_clamp (show 81 * s + i < 2 ^ 31 by omega), nI_clamp (show i < 2 ^ 31 by omega)]
      refine nm_e ⟨vp_in_nI z (by decide), vp_in_nI (by omega) (by decide), nm_e (nm_r (nI_1 i) (ih (i + 1) _ (by omega) (by omega) (fun j hj => ?_) (fun j hj => ?_) (fun j hj => ?_)))⟩
      · rw [pk_un (by omega)]
        by_cases w : j = i
        · rw [w, pk_us]
        · rw [pk_un (by omega)]
          exact D1 j (by omega)
      · by_cases w : j = i
        · rw [w, pk_us]
        · rw [pk_un (by omega), pk_un (by omega)]
          exact D2 j (by omega)
      · rw [pk_un (by omega), pk_un (by omega)]
        exact D4 j hj
theorem fy_mk {post : Int32 → SY → Prop} {s : Nat} (hs : s < 6)
    (K : ∀ KE' : Nat → Int32, (∀ j, j < 16 → KE' (81 * s + j) = CL j) → (∀ j, j < 16 → KE' (81 * s + 16 + j) = TY j) → (∀ j, j < 48 → KE' (81 * s + 32 + j) = VL j) → KE' (81 * s + 80) = cn → (∀ j, j < 81 * s → KE' j = KE j) → post (nI (s + 1)) (cn, (nI (s + 1)), BE, CL, TY, VL, FR, IG, PE, KE')) : wpY_mark post (cn, (nI s), BE, CL, TY, VL, FR, IG, PE, KE) := by
  unfold wpY_mark
  refine pk_eq s 6 (fun z => by omega) (fun _ => ?_)
  refine nm_r (fu_81x s) ?_
  rw [fu_c80 (81 * s)]
  refine ⟨vp_in_nI (by omega) (by decide), ?_⟩
  rw [nI_clamp (show 81 * s + 80 < 2 ^ 31 by omega)]
  refine nm_e ⟨17, fy_mk35 hs (upd KE (81 * s + 80) cn) (fun KE2 a b c d => K KE2 a b c ?_ (fun j hj => ?_)) 17 0 _ (by omega) (by omega) (fun j hj => by omega) (fun j hj => by omega) (fun j _ => rfl)⟩
  · rw [d _ (Or.inr (Nat.le_refl _)), pk_us]
  · rw [d j (Or.inl hj), pk_un (by omega)]
theorem fy_ba88 {post : Int32 → SY → Prop} {s : Nat} (hs : s < 6) : ∀ n i (VL : Nat → Int32), 48 - i < n → i ≤ 48 → post mk (cn, mk, BE, CL, TY, (fu_ri KE (81 * s + 32) i 48 VL), FR, IG, PE, KE) → wY_back_88 post (nI (81 * s)) cn mk n (nI i) BE CL TY VL FR IG PE KE := by
  intro n
  induction n with
  | zero => intro i VL h; omega
  | succ n ih =>
    intro i VL h hi k
    rw [wY_back_88]
    refine pk_le 48 i (fun z => ?_) (fun z => ?_)
    · rw [fu_ri_e z] at k
      exact k
    · rw [fu_c32 (81 * s) i]
      refine ⟨vp_in_nI (by omega) (by decide), vp_in_nI z (by decide), ?_⟩
      rw [nI_clamp (show 81 * s + 32 + i < 2 ^ 31 by omega), nI_clamp (show i < 2 ^ 31 by omega)]
      rw [← fu_ri_s z] at k
      exact nm_e (nm_r (nI_1 i) (ih (i + 1) _ (by omega) (by omega) k))
theorem fy_ba43 {post : Int32 → SY → Prop} {s : Nat} (hs : s < 6) : ∀ n i (CL TY : Nat → Int32), 16 - i < n → i ≤ 16 → post mk (cn, mk, BE, (fu_ri KE (81 * s) i 16 CL), (fu_ri KE (81 * s + 16) i 16 TY), (fu_ri KE (81 * s + 32) 0 48 VL), FR, IG, PE, KE) → wY_back_43 post (nI (81 * s)) cn mk n (nI i) BE CL TY VL FR IG PE KE := by
  intro n
  induction n with
  | zero => intro i CL TY h; omega
  | succ n ih =>
    intro i CL TY h hi k
    rw [wY_back_43]
    refine pk_le 16 i (fun z => ?_) (fun z => ?_)
    · rw [fu_ri_e z, fu_ri_e z] at k
      exact ⟨49, fy_ba88 hs 49 0 VL (by omega) (by omega) k⟩
    · rw [fu_c16 (81 * s) i, nI_add (81 * s) i]
      refine ⟨vp_in_nI (by omega) (by decide), vp_in_nI z (by decide), ?_⟩
      rw [nI_clamp (show 81 * s + 16 + i < 2 ^ 31 by omega), nI_clamp (show 81 * s + i < 2 ^ 31 by omega), nI_clamp (show i < 2 ^ 31 by omega)]
      rw [← fu_ri_s (A := CL) z, ← fu_ri_s (A := TY) z] at k
      exact nm_e ⟨vp_in_nI (by omega) (by decide), vp_in_nI z (by decide), nm_e (nm_r (nI_1 i) (ih (i + 1) _ _ (by omega) (by omega) k))⟩
theorem fy_ba {post : Int32 → SY → Prop} {s : Nat} (hs : s < 6) (k : post (nI s) ((KE (81 * s + 80)), (nI s), BE, (fu_ri KE (81 * s) 0 16 CL), (fu_ri KE (81 * s + 16) 0 16 TY), (fu_ri KE (81 * s + 32) 0 48 VL), FR, IG, PE, KE)) : wpY_back post (cn, (nI (s + 1)), BE, CL, TY, VL, FR, IG, PE, KE) := by
  unfold wpY_back
  refine br_f (nI_ne0 (by omega) (by omega)) (nm_r (nI_pred s) (nm_r (fu_81x s) ?_))
  rw [fu_c80 (81 * s)]
  refine ⟨vp_in_nI (by omega) (by decide), ?_⟩
  rw [nI_clamp (show 81 * s + 80 < 2 ^ 31 by omega)]
  exact nm_e ⟨17, fy_ba43 hs 17 0 CL TY (by omega) (by omega) k⟩
def fu_f0 : Nat → Int32 → Int32 := fun j _ => (1 : Int32) <<< (nI j &&& 31)
theorem fy_in80 {post : SY → Prop} : ∀ n i (BE : Nat → Int32), 8 - i < n → i ≤ 8 → post (cn, mk, (fu_mp fu_f0 i 8 BE), CL, TY, VL, FR, IG, PE, KE) → wY_init_80 post cn mk n (nI i) BE CL TY VL FR IG PE KE := by
  intro n
  induction n with
  | zero => intro i BE h; omega
  | succ n ih =>
    intro i BE h hi k
    rw [wY_init_80]
    refine pk_le 8 i (fun z => ?_) (fun z => ?_)
    · rw [fu_mp_e z] at k
      exact k
    · refine ⟨vp_in_nI z (by decide), ?_⟩
      rw [nI_clamp (show i < 2 ^ 31 by omega)]
      rw [← fu_mp_s (A := BE) z] at k
      exact nm_e (nm_r (nI_1 i) (ih (i + 1) _ (by omega) (by omega) k))
end
section
variable {nC mC pC : Int32} {LT TL CA TA VA SN SC ST SV PL PR IM : Nat → Int32}
theorem fx_in118 {post : SX → Prop} : ∀ n i (LT : Nat → Int32), 8 - i < n → i ≤ 8 → post (nC, mC, pC, (upd (fu_mp fu_f0 i 8 LT) 0 255), TL, CA, TA, VA, SN, SC, ST, SV, PL, PR, IM) → wX_init_118 post nC mC pC n (nI i) LT TL CA TA VA SN SC ST SV PL PR IM := by
  intro n
  induction n with
  | zero => intro i LT h; omega
  | succ n ih =>
    intro i LT h hi k
    rw [wX_init_118]
    refine pk_le 8 i (fun z => ?_) (fun z => ?_)
    · rw [fu_mp_e z] at k
      exact nm_e k
    · refine ⟨vp_in_nI z (by decide), ?_⟩
      rw [nI_clamp (show i < 2 ^ 31 by omega)]
      rw [← fu_mp_s (A := LT) z] at k
      exact nm_e (nm_r (nI_1 i) (ih (i + 1) _ (by omega) (by omega) k))
end
