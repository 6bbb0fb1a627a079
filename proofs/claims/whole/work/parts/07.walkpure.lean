/-! what can be come to -/
def fu_Rc (v : Nat → Nat → Option Nat) (s0 i : Nat) : Prop :=
  ∀ S : Nat → Prop, S s0 → (∀ p f d, S p → f < 3 → v p f = some d → S d) → S i
/-- a set on the way -/
def fu_Rs (cnt : Nat) (c : Nat → Nat) (v : Nat → Nat → Option Nat) (s0 : Nat) (s : Int32) : Prop :=
  bt s s0 = true ∧ (∀ i, bt s i = true → i < cnt ∧ c i = i ∧ fu_Rc v s0 i)
def fu_Rd (v : Nat → Nat → Option Nat) (s : Int32) : Prop := ∀ p f d, bt s p = true → f < 3 → v p f = some d → bt s d = true
section
variable {cnt : Nat} {c t : Nat → Nat} {v : Nat → Nat → Option Nat} {s0 : Nat}
theorem fu_Rs_in {s : Int32} (D : fu_Rd v s) (h0 : bt s s0 = true) {i : Nat} (h : fu_Rc v s0 i) : bt s i = true :=
  h (fun x => bt s x = true) h0 D
theorem fu_Rs_eq {s s' : Int32} (I : fu_Rs cnt c v s0 s) (I' : fu_Rs cnt c v s0 s') (D : fu_Rd v s) (D' : fu_Rd v s') : s = s' := by
  refine b_ext fun i _ => ?_
  cases x : bt s i with
  | true => exact (fu_Rs_in D' I'.1 (I.2 i x).2.2).symm
  | false =>
    cases y : bt s' i with
    | true =>
      rw [fu_Rs_in D I.1 (I'.2 i y).2.2] at x
      exact absurd x (by decide)
    | false => rfl
def fu_Rk (v : Nat → Nat → Option Nat) (cnt : Nat) (s : Int32) (k : Nat) : Prop := fu_Rd v s ∨ k + 1 ≤ fu_cd (bt s) cnt
theorem fu_Rk0 {s : Int32} (I : fu_Rs cnt c v s0 s) : fu_Rk v cnt s 0 := Or.inr (fu_cd_1 (I.2 s0 I.1).1 I.1)
theorem fu_Rks {s s' : Int32} {k : Nat} (I : fu_Rs cnt c v s0 s) (I' : fu_Rs cnt c v s0 s') (G : ∀ i, bt s i = true → bt s' i = true)
    (A : ∀ p f d, bt s p = true → f < 3 → v p f = some d → bt s' d = true) (K : fu_Rk v cnt s k) : fu_Rk v cnt s' (k + 1) := by
  have same : (∀ i, bt s' i = true → bt s i = true) → fu_Rd v s' := fun h p f d hp hf hv => A p f d (h p hp) hf hv
  rcases K with D | K
  · exact Or.inl (same fun i hi => fu_Rs_in D I.1 (I'.2 i hi).2.2)
  · by_cases z : ∀ i, bt s' i = true → bt s i = true
    · exact Or.inl (same z)
    · refine Or.inr ?_
      have z2 : ∃ i, bt s' i = true ∧ bt s i = false := by
        refine Classical.byContradiction fun y => z fun i hi => ?_
        cases x : bt s i with
        | true => rfl
        | false => exact absurd ⟨i, hi, x⟩ y
      obtain ⟨i, h1, h2⟩ := z2
      have := fu_cd_lt cnt (fun i _ h => G i h) i (I'.2 i h1).1 h2 h1
      omega
theorem fu_Rke {s : Int32} {k : Nat} (K : fu_Rk v cnt s k) (h : cnt ≤ k) : fu_Rd v s := by
  rcases K with D | K
  · exact D
  · have := fu_cd_le (bt s) cnt
    omega
theorem fu_Rs0 (W : fu_WF cnt c t v) {x : Nat} (hx : x < cnt) (e : c x = x) : fu_Rs cnt c v x ((1 : Int32) <<< (nI x &&& 31)) := by
  have w1 := W.1
  refine ⟨by rw [fu_one (by omega) (by omega), decide_eq_true rfl], fun i hi => ?_⟩
  rw [fu_one (by omega) (fu_lt hi), decide_eq_true_iff] at hi
  subst hi
  exact ⟨hx, e, fun S h _ => h⟩
theorem fu_Rsa (W : fu_WF cnt c t v) {s w : Int32} {p f d : Nat} (I : fu_Rs cnt c v s0 s) (J : fu_Rs cnt c v s0 w) (hp : bt s p = true) (hf : f < 3) (hv : v p f = some d) : fu_Rs cnt c v s0 (w ||| ((1 : Int32) <<< (nI d &&& 31))) ∧ d < cnt ∧ (∀ i, bt w i = true → bt (w ||| ((1 : Int32) <<< (nI d &&& 31))) i = true) ∧ bt (w ||| ((1 : Int32) <<< (nI d &&& 31))) d = true := by
  have w1 := W.1
  have k := I.2 p hp
  have kd := W.2.2.2 p f d k.1 k.2.1 hf hv
  have mono : ∀ i, bt w i = true → bt (w ||| ((1 : Int32) <<< (nI d &&& 31))) i = true := fun i h => by rw [b_or, h]; rfl
  refine ⟨⟨mono s0 J.1, fun i hi => ?_⟩, kd.1, mono, ?_⟩
  · have h32 := fu_lt hi
    rw [b_or, Bool.or_eq_true] at hi
    rcases hi with hi | hi
    · exact J.2 i hi
    · rw [fu_one (by omega) h32, decide_eq_true_iff] at hi
      subst hi
      exact ⟨kd.1, kd.2, fun S a b => b p f i (k.2.2 S a b) hf hv⟩
  · rw [b_or, fu_one (by omega) (by omega), decide_eq_true rfl, Bool.or_true]
end
/-! comparison -/
def fu_s1 (v : Nat → Nat → Option Nat) (p h f : Nat) (im : Nat → Option Nat) : Option (Nat → Option Nat) :=
  match v p f with
  | none => some im
  | some d => match v h f with
    | none => none
    | some e => if im d = none ∨ im d = some e then some (fun x => if x = d then some e else im x) else none
def fu_s3 (v : Nat → Nat → Option Nat) (p h : Nat) : Nat → Nat → (Nat → Option Nat) → Option (Nat → Option Nat)
  | 0, _, im => some im
  | k + 1, f, im => match fu_s1 v p h f im with
    | none => none
    | some im' => fu_s3 v p h k (f + 1) im'
def fu_sp (lo : Nat → Int32) (t : Nat → Nat) (v : Nat → Nat → Option Nat) (p : Nat) (im : Nat → Option Nat) : Option (Nat → Option Nat) :=
  match im p with
  | none => some im
  | some h => if bt (lo (t p)) (t h) = true then fu_s3 v p h 3 0 im else none
def fu_sr (lo : Nat → Int32) (t : Nat → Nat) (v : Nat → Nat → Option Nat) : Nat → Nat → (Nat → Option Nat) → Option (Nat → Option Nat)
  | 0, _, im => some im
  | k + 1, p, im => match fu_sp lo t v p im with
    | none => none
    | some im' => fu_sr lo t v k (p + 1) im'
def fu_it (F : (Nat → Option Nat) → Option (Nat → Option Nat)) : Nat → (Nat → Option Nat) → Option (Nat → Option Nat)
  | 0, s => some s
  | k + 1, s => match F s with
    | none => none
    | some s' => fu_it F k s'
theorem fu_it_add (F : (Nat → Option Nat) → Option (Nat → Option Nat)) : ∀ a b s, fu_it F (a + b) s = match fu_it F a s with
    | none => none
    | some s' => fu_it F b s' := by
  intro a b
  induction a with
  | zero => intro s; rw [Nat.zero_add]; rfl
  | succ a ih =>
    intro s
    rw [Nat.succ_add]
    show (match F s with | none => none | some s' => fu_it F (a + b) s') = match (match F s with | none => none | some s' => fu_it F a s') with | none => none | some s' => fu_it F b s'
    cases F s with
    | none => rfl
    | some s' => exact ih s'
theorem fu_it_fix {F : (Nat → Option Nat) → Option (Nat → Option Nat)} {s : Nat → Option Nat} (h : F s = some s) : ∀ k, fu_it F k s = some s := by
  intro k
  induction k with
  | zero => rfl
  | succ k ih =>
    show (match F s with | none => none | some s' => fu_it F k s') = some s
    rw [h]
    exact ih
/-- images of leaders are leaders -/
def fu_Im (cnt : Nat) (c : Nat → Nat) (im : Nat → Option Nat) : Prop := ∀ p h, im p = some h → p < cnt ∧ c p = p ∧ h < cnt ∧ c h = h
/-- a step adds, and changes nothing -/
def fu_Ad (im im' : Nat → Option Nat) : Prop := ∀ x h, im x = some h → im' x = some h
section
variable {cnt : Nat} {c t : Nat → Nat} {v : Nat → Nat → Option Nat} {lo : Nat → Int32}
theorem fu_s1_ok (W : fu_WF cnt c t v) {p h f : Nat} {im im' : Nat → Option Nat} (I : fu_Im cnt c im) (hp : p < cnt) (ep : c p = p) (hh : h < cnt) (eh : c h = h) (hf : f < 3) (e : fu_s1 v p h f im = some im') : fu_Im cnt c im' ∧ fu_Ad im im' := by
  unfold fu_s1 at e
  cases x : v p f with
  | none =>
    rw [x] at e
    cases e
    exact ⟨I, fun _ _ z => z⟩
  | some d =>
    rw [x] at e
    cases y : v h f with
    | none =>
      rw [y] at e
      exact nomatch e
    | some q =>
      rw [y] at e
      have e : (if im d = none ∨ im d = some q then some (fun x => if x = d then some q else im x) else none) = some im' := e
      by_cases z : im d = none ∨ im d = some q
      · rw [if_pos z] at e
        cases e
        have kd := W.2.2.2 p f d hp ep hf x
        have kq := W.2.2.2 h f q hh eh hf y
        refine ⟨fun a b hab => ?_, fun a b hab => ?_⟩
        · have hab : (if a = d then some q else im a) = some b := hab
          by_cases u : a = d
          · rw [if_pos u] at hab
            cases hab
            rw [u]
            exact ⟨kd.1, kd.2, kq.1, kq.2⟩
          · rw [if_neg u] at hab
            exact I a b hab
        · show (if a = d then some q else im a) = some b
          by_cases u : a = d
          · rw [if_pos u]
            subst u
            rcases z with z | z
            · rw [z] at hab; exact nomatch hab
            · rw [z] at hab; exact hab
          · rw [if_neg u]
            exact hab
      · rw [if_neg z] at e
        exact nomatch e
theorem fu_s3_ok (W : fu_WF cnt c t v) {p h : Nat} (hp : p < cnt) (ep : c p = p) (hh : h < cnt) (eh : c h = h) : ∀ k f im im', f + k = 3 → fu_Im cnt c im → fu_s3 v p h k f im = some im' → fu_Im cnt c im' ∧ fu_Ad im im' := by
  intro k
  induction k with
  | zero =>
    intro f im im' _ I e
    cases e
    exact ⟨I, fun _ _ z => z⟩
  | succ k ih =>
    intro f im im' hf I e
    have e : (match fu_s1 v p h f im with | none => none | some im2 => fu_s3 v p h k (f + 1) im2) = some im' := e
    cases x : fu_s1 v p h f im with
    | none => rw [x] at e; exact nomatch e
    | some im2 =>
      rw [x] at e
      have h1 := fu_s1_ok W I hp ep hh eh (by omega) x
      have h2 := ih (f + 1) im2 im' (by omega) h1.1 e
      exact ⟨h2.1, fun a b z => h2.2 a b (h1.2 a b z)⟩
theorem fu_sp_ok (W : fu_WF cnt c t v) {p : Nat} {im im' : Nat → Option Nat} (I : fu_Im cnt c im) (e : fu_sp lo t v p im = some im') : fu_Im cnt c im' ∧ fu_Ad im im' := by
  unfold fu_sp at e
  cases x : im p with
  | none =>
    rw [x] at e
    cases e
    exact ⟨I, fun _ _ z => z⟩
  | some h =>
    rw [x] at e
    have e : (if bt (lo (t p)) (t h) = true then fu_s3 v p h 3 0 im else none) = some im' := e
    have k := I p h x
    by_cases z : bt (lo (t p)) (t h) = true
    · rw [if_pos z] at e
      exact fu_s3_ok W k.1 k.2.1 k.2.2.1 k.2.2.2 3 0 im im' rfl I e
    · rw [if_neg z] at e
      exact nomatch e
theorem fu_sr_ok (W : fu_WF cnt c t v) : ∀ k p im im', fu_Im cnt c im → fu_sr lo t v k p im = some im' → fu_Im cnt c im' ∧ fu_Ad im im' := by
  intro k
  induction k with
  | zero =>
    intro p im im' I e
    cases e
    exact ⟨I, fun _ _ z => z⟩
  | succ k ih =>
    intro p im im' I e
    have e : (match fu_sp lo t v p im with | none => none | some im2 => fu_sr lo t v k (p + 1) im2) = some im' := e
    cases x : fu_sp lo t v p im with
    | none => rw [x] at e; exact nomatch e
    | some im2 =>
      rw [x] at e
      have h1 := fu_sp_ok W I x
      have h2 := ih (p + 1) im2 im' h1.1 e
      exact ⟨h2.1, fun a b z => h2.2 a b (h1.2 a b z)⟩
def fu_mu (cnt : Nat) (im : Nat → Option Nat) : Nat := fu_cd (fun p => (im p).isSome) cnt
theorem fu_mu_lt {im im' : Nat → Option Nat} (I' : fu_Im cnt c im') (A : fu_Ad im im') (n : im' ≠ im) : fu_mu cnt im < fu_mu cnt im' := by
  have z : ∃ x h, im x = none ∧ im' x = some h := by
    refine Classical.byContradiction fun y => n (funext fun x => ?_)
    cases a : im x with
    | some h => exact A x h a
    | none =>
      cases b : im' x with
      | none => rfl
      | some h => exact absurd ⟨x, h, a, b⟩ y
  obtain ⟨x, h, a, b⟩ := z
  refine fu_cd_lt cnt (fun i _ hi => ?_) x (I' x h b).1 ?_ ?_
  · have hi : (im i).isSome = true := hi
    show (im' i).isSome = true
    cases u : im i with
    | none => rw [u] at hi; exact absurd hi (by decide)
    | some w => rw [A i w u]; rfl
  · show (im x).isSome = false
    rw [a]; rfl
  · show (im' x).isSome = true
    rw [b]; rfl
theorem fu_it_gr (W : fu_WF cnt c t v) : ∀ k im im', fu_Im cnt c im → fu_it (fu_sr lo t v cnt 0) k im = some im' → fu_Im cnt c im' ∧ (fu_sr lo t v cnt 0 im' = some im' ∨ fu_mu cnt im + k ≤ fu_mu cnt im') := by
  intro k
  induction k with
  | zero =>
    intro im im' I e
    cases e
    exact ⟨I, Or.inr (Nat.le_refl _)⟩
  | succ k ih =>
    intro im im' I e
    have e : (match fu_sr lo t v cnt 0 im with | none => none | some s' => fu_it (fu_sr lo t v cnt 0) k s') = some im' := e
    cases x : fu_sr lo t v cnt 0 im with
    | none => rw [x] at e; exact nomatch e
    | some im2 =>
      rw [x] at e
      have e : fu_it (fu_sr lo t v cnt 0) k im2 = some im' := e
      have h1 := fu_sr_ok W cnt 0 im im2 I x
      have h2 := ih im2 im' h1.1 e
      refine ⟨h2.1, ?_⟩
      by_cases z : im2 = im
      · rw [z] at x e
        rw [fu_it_fix x k] at e
        cases e
        exact Or.inl x
      · have h3 := fu_mu_lt h1.1 h1.2 z
        rcases h2.2 with y | y
        · exact Or.inl y
        · exact Or.inr (by omega)
/-- nodeCount rounds say what 16 say -/
theorem fu_it_16 (W : fu_WF cnt c t v) {im : Nat → Option Nat} (I : fu_Im cnt c im) {p h : Nat} (hp : im p = some h) : (fu_it (fu_sr lo t v cnt 0) cnt im).isSome = (fu_it (fu_sr lo t v cnt 0) 16 im).isSome := by
  have w1 := W.1
  have e : 16 = cnt + (16 - cnt) := by omega
  rw [e, fu_it_add]
  cases x : fu_it (fu_sr lo t v cnt 0) cnt im with
  | none => rfl
  | some im' =>
    have k := fu_it_gr W cnt im im' I x
    rcases k.2 with y | y
    · show true = (fu_it (fu_sr lo t v cnt 0) (16 - cnt) im').isSome
      rw [fu_it_fix y]
      rfl
    · have h1 : 1 ≤ fu_mu cnt im := by
        refine fu_cd_1 (I p h hp).1 ?_
        show (im p).isSome = true
        rw [hp]; rfl
      have h2 := fu_cd_le (fun p => (im' p).isSome) cnt
      unfold fu_mu at y h1
      omega
end
