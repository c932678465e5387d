section MQ8
variable {n : Nat → Nat} {D : Nat → Nat → Int32} {m : Nat → Nat} {T C : Nat → Nat → Int32} {s : MqG}
def mq_mp (t : Int32) : Prop := (¬ t < -1 ∧ t ≤ 5) ∨ (¬ t < 10 ∧ t ≤ 16) ∨ (¬ t < 20 ∧ t ≤ 23) ∨ (¬ t < 30 ∧ ¬ 34 < t)
theorem mx_mp {post : Int32 → Prop} {t : Int32} (h1 : mq_mp t → post 1) (h0 : ¬ mq_mp t → post 0) : wpX_mayBePut post t := by
  have q4 : ¬ (¬ t < -1 ∧ t ≤ 5) → ¬ (¬ t < 10 ∧ t ≤ 16) → ¬ (¬ t < 20 ∧ t ≤ 23) → wX_mayBePut_34 post t := by
    intro a1 a2 a3
    have b0 : ¬ (¬ t < 30 ∧ ¬ 34 < t) → post 0 := fun a4 => h0 (fun z => z.elim a1 (fun z => z.elim a2 (fun z => z.elim a3 a4)))
    exact br_c (fun c => b0 (fun z => z.1 c)) (fun c => br_c (fun c' => b0 (fun z => z.2 c')) (fun c' => h1 (Or.inr (Or.inr (Or.inr ⟨c, c'⟩)))))
  have q3 : ¬ (¬ t < -1 ∧ t ≤ 5) → ¬ (¬ t < 10 ∧ t ≤ 16) → wX_mayBePut_22 post t := by
    intro a1 a2
    exact br_c (fun c => q4 a1 a2 (fun z => z.1 c)) (fun c => br_c (fun c' => h1 (Or.inr (Or.inr (Or.inl ⟨c, c'⟩)))) (fun c' => q4 a1 a2 (fun z => c' z.2)))
  have q2 : ¬ (¬ t < -1 ∧ t ≤ 5) → wX_mayBePut_10 post t := by
    intro a1
    exact br_c (fun c => q3 a1 (fun z => z.1 c)) (fun c => br_c (fun c' => h1 (Or.inr (Or.inl ⟨c, c'⟩))) (fun c' => q3 a1 (fun z => c' z.2)))
  exact br_c (fun c => q2 (fun z => z.1 c)) (fun c => br_c (fun c' => h1 (Or.inl ⟨c, c'⟩)) (fun c' => q2 (fun z => c' z.2)))
theorem my_mp {post : Int32 → Prop} {t : Int32} (h1 : mq_mp t → post 1) (h0 : ¬ mq_mp t → post 0) : wpY_valid post t := by
  have q4 : ¬ (¬ t < -1 ∧ t ≤ 5) → ¬ (¬ t < 10 ∧ t ≤ 16) → ¬ (¬ t < 20 ∧ t ≤ 23) → wY_valid_34 post t := by
    intro a1 a2 a3
    have b0 : ¬ (¬ t < 30 ∧ ¬ 34 < t) → post 0 := fun a4 => h0 (fun z => z.elim a1 (fun z => z.elim a2 (fun z => z.elim a3 a4)))
    exact br_c (fun c => b0 (fun z => z.1 c)) (fun c => br_c (fun c' => b0 (fun z => z.2 c')) (fun c' => h1 (Or.inr (Or.inr (Or.inr ⟨c, c'⟩)))))
  have q3 : ¬ (¬ t < -1 ∧ t ≤ 5) → ¬ (¬ t < 10 ∧ t ≤ 16) → wY_valid_22 post t := by
    intro a1 a2
    exact br_c (fun c => q4 a1 a2 (fun z => z.1 c)) (fun c => br_c (fun c' => h1 (Or.inr (Or.inr (Or.inl ⟨c, c'⟩)))) (fun c' => q4 a1 a2 (fun z => c' z.2)))
  have q2 : ¬ (¬ t < -1 ∧ t ≤ 5) → wY_valid_10 post t := by
    intro a1
    exact br_c (fun c => q3 a1 (fun z => z.1 c)) (fun c => br_c (fun c' => h1 (Or.inr (Or.inl ⟨c, c'⟩))) (fun c' => q3 a1 (fun z => c' z.2)))
  exact br_c (fun c => q2 (fun z => z.1 c)) (fun c => br_c (fun c' => h1 (Or.inl ⟨c, c'⟩)) (fun c' => q2 (fun z => c' z.2)))
theorem mq_tab : ∀ j, j < 35 → (j ≤ 5 ∨ (10 ≤ j ∧ j ≤ 16) ∨ (20 ≤ j ∧ j ≤ 23) ∨ 30 ≤ j) → nI j ∈ mq_tk := by decide +kernel
theorem mq_mp_tk {t : Int32} (h : mq_mp t) (h1 : ¬ t = -1) : t ∈ mq_tk := by
  by_cases h0 : t < 0
  · exfalso
    have l1 : ((-1 : Int32)).toInt = -1 := by decide
    have l0 : ((0 : Int32)).toInt = 0 := by decide
    have l10 : ((10 : Int32)).toInt = 10 := by decide
    have l20 : ((20 : Int32)).toInt = 20 := by decide
    have l30 : ((30 : Int32)).toInt = 30 := by decide
    have h2 : t.toInt ≠ -1 := fun e => h1 (Int32.toInt_inj.mp (e.trans l1.symm))
    unfold mq_mp at h
    simp only [Int32.lt_iff_toInt_lt, Int32.le_iff_toInt_le, l1, l0, l10, l20, l30] at h h0
    omega
  · obtain ⟨j, hj, rfl⟩ := nI_of h0
    unfold mq_mp at h
    have l5 : nI j ≤ 5 ↔ j ≤ 5 := nI_leI (b := 5) hj (by decide)
    have l10 : nI j < 10 ↔ j < 10 := nI_ltI (b := 10) hj (by decide)
    have l16 : nI j ≤ 16 ↔ j ≤ 16 := nI_leI (b := 16) hj (by decide)
    have l20 : nI j < 20 ↔ j < 20 := nI_ltI (b := 20) hj (by decide)
    have l23 : nI j ≤ 23 ↔ j ≤ 23 := nI_leI (b := 23) hj (by decide)
    have l30 : nI j < 30 ↔ j < 30 := nI_ltI (b := 30) hj (by decide)
    have l34 : 34 < nI j ↔ 34 < j := nI_ltI (a := 34) (by decide) hj
    rw [l5, l10, l16, l20, l23, l30, l34] at h
    exact mq_tab j (by omega) (by omega)
theorem mq_tk_pos {t : Int32} (h : t ∈ mq_tk) : 0 ≤ t := by
  revert t
  decide +kernel
theorem mq_tk_n1 {t : Int32} (h : t ∈ mq_tk) : ¬ t = -1 := by
  revert t
  decide +kernel
/-! one token more, or none -/
def mq_a1 (x : Int32) : Nat := if x = -1 then 0 else 1
def mq_m1 (m : Nat → Nat) (x : Int32) : Nat → Nat := if x = -1 then m else mq_nS m 3 (m 3 + 1)
def mq_T1 (m : Nat → Nat) (T : Nat → Nat → Int32) (x y : Int32) : Nat → Nat → Int32 := if x = -1 then T else mq_fS T 3 (m 3) y
theorem mq_m1_3 (m : Nat → Nat) (x : Int32) : mq_m1 m x 3 = m 3 + mq_a1 x := by
  unfold mq_m1 mq_a1
  by_cases e : x = -1
  · rw [if_pos e, if_pos e]; rfl
  · rw [if_neg e, if_neg e]; rfl
theorem mq_a1_le (x : Int32) : mq_a1 x ≤ 1 := by
  unfold mq_a1
  split <;> omega
theorem mq_ei_1 {m : Nat → Nat} {T : Nat → Nat → Int32} {x : Int32} (h : mq_EI m T) (hx : ¬ x = -1 → x ∈ mq_tk) : mq_EI (mq_m1 m x) (mq_T1 m T x x) := by
  unfold mq_m1 mq_T1
  by_cases e : x = -1
  · rw [if_pos e, if_pos e]; exact h
  · rw [if_neg e, if_neg e]; exact mq_ei_ad h (hx e)
theorem mp_a1 {W : Int32 → Prop} {x : Int32} (h : W (nI (mq_a1 x))) : (x = -1 → W 0) ∧ (¬ x = -1 → W 1) := by
  unfold mq_a1 at h
  by_cases e : x = -1
  · rw [if_pos e] at h
    exact br_t e h
  · rw [if_neg e] at h
    exact br_f e h
theorem mx_add {post : SX → Prop} {u : SX} (H : mq_XR n D m T C s u) {x y : Int32} (hx : ¬ x = -1) (hm : m 3 < 20)
    (K : ∀ u', mq_XR n D (mq_nS m 3 (m 3 + 1)) (mq_fS T 3 (m 3) x) (mq_fS C 3 (m 3) y) s u' → post u') : wpX_addToken post u x y := by
  obtain ⟨gc, pc, tm, ce, rc, tk, co, ln, ki, nm, nu, pr, fa⟩ := u
  have h1 := (H.2.1.1 3 (by decide)).2
  refine nm_r h1 (br_f hx (br_t (nI_lt (b := 20) hm (by decide)) ?_))
  rw [mi_60, nI_clamp (by omega), nI_1]
  exact ⟨vp_in_nI (by omega) (by decide), nm_e ⟨vp_in_nI (by omega) (by decide), nm_e (nm_e (K _ ⟨H.1, mq_ex_ad H.2.1 hm, H.2.2⟩))⟩⟩
theorem my_add {post : SY → Prop} {u : SY} (H : mq_YR n D m T C s u) {x y : Int32} (hx : 0 ≤ x) (hm : m 3 < 20)
    (K : ∀ u', mq_YR n D (mq_nS m 3 (m 3 + 1)) (mq_fS T 3 (m 3) x) (mq_fS C 3 (m 3) y) s u' → post u') : wpY_add post u x y := by
  obtain ⟨tp, gr, fu, pp, ce, rc, tk, co, ln, nm, nu, gn, gk, gs⟩ := u
  have h1 := (H.2.1.1 3 (by decide)).2
  refine br_t hx ?_
  rw [h1, mi_60, nI_clamp (by omega), nI_1]
  exact ⟨vp_in_nI (by omega) (by decide), nm_e ⟨vp_in_nI (by omega) (by decide), nm_e (nm_e (K _ ⟨H.1, mq_ex_ad H.2.1 hm, H.2.2⟩))⟩⟩
theorem mx_add1 {post : SX → Prop} {u : SX} (H : mq_XR n D m T C s u) {x : Int32} (hm : m 3 + mq_a1 x ≤ 20)
    (K : ∀ u', mq_XR n D (mq_m1 m x) (mq_T1 m T x x) (mq_T1 m C x 0) s u' → post u') : wpX_addToken post u x 0 := by
  unfold mq_m1 mq_T1 at K
  unfold mq_a1 at hm
  by_cases e : x = -1
  · simp only [if_pos e] at K
    have K2 := K u H
    obtain ⟨gc, pc, tm, ce, rc, tk, co, ln, ki, nm, nu, pr, fa⟩ := u
    exact nm_e (br_t e K2)
  · simp only [if_neg e] at K hm
    exact mx_add H e (by omega) K
theorem my_add1 {post : SY → Prop} {u : SY} (H : mq_YR n D m T C s u) {x : Int32} (hx : mq_mp x) (hm : m 3 + mq_a1 x ≤ 20)
    (K : ∀ u', mq_YR n D (mq_m1 m x) (mq_T1 m T x x) (mq_T1 m C x 0) s u' → post u') : wpY_add post u x 0 := by
  unfold mq_m1 mq_T1 at K
  unfold mq_a1 at hm
  by_cases e : x = -1
  · simp only [if_pos e] at K
    have K2 := K u H
    subst e
    obtain ⟨tp, gr, fu, pp, ce, rc, tk, co, ln, nm, nu, gn, gk, gs⟩ := u
    exact br_f (by decide) K2
  · simp only [if_neg e] at K hm
    exact my_add H (mq_tk_pos (mq_mp_tk hx e)) (by omega) K
/-! put -/
theorem mx_put {post : Int32 → SX → Prop} {u : SX} (H : mq_XR n D m T C s u) {a b c : Int32} (ha : mq_mp a) (hb : mq_mp b) (hc : mq_mp c) (hm : m 3 + mq_a1 a + mq_a1 b + mq_a1 c ≤ 20)
    (K : ∀ u', mq_XR n D (mq_m1 (mq_m1 (mq_m1 m a) b) c) (mq_T1 (mq_m1 (mq_m1 m a) b) (mq_T1 (mq_m1 m a) (mq_T1 m T a a) b b) c c) (mq_T1 (mq_m1 (mq_m1 m a) b) (mq_T1 (mq_m1 m a) (mq_T1 m C a 0) b 0) c 0) s u' → post 1 u') : wpX_put post u a b c := by
  have q1 := mq_m1_3 m a
  have q2 := mq_m1_3 (mq_m1 m a) b
  obtain ⟨gc, pc, tm, ce, rc, tk, co, ln, ki, nm, nu, pr, fa⟩ := u
  unfold wpX_put
  dsimp only
  refine mx_mp (fun _ => ?_) (fun z => absurd ha z)
  refine br_f (by decide) ?_
  refine mx_mp (fun _ => ?_) (fun z => absurd hb z)
  refine br_f (by decide) ?_
  refine mx_mp (fun _ => ?_) (fun z => absurd hc z)
  refine br_f (by decide) ?_
  refine mp_a1 (W := fun z => wX_put_33 post a b c z gc pc tm ce rc tk co ln ki nm nu pr fa) ?_
  refine mp_a1 (W := fun z => wX_put_43 post a b c z (nI (mq_a1 a)) gc pc tm ce rc tk co ln ki nm nu pr fa) ?_
  refine mp_a1 (W := fun z => wX_put_54 post a b c z (nI (mq_a1 a) + nI (mq_a1 b)) gc pc tm ce rc tk co ln ki nm nu pr fa) ?_
  refine nm_r (e' := nI (mq_a1 a + mq_a1 b + mq_a1 c)) (by rw [nI_add, nI_add]) ?_
  have h1 := (H.2.1.1 3 (by decide)).2
  rw [h1, nI_add]
  refine br_t (nI_le (b := 20) (by omega) (by decide)) ?_
  refine mx_add1 H (by omega) ?_
  intro u1 H1
  obtain ⟨gc, pc, tm, ce, rc, tk, co, ln, ki, nm, nu, pr, fa⟩ := u1
  refine mx_add1 H1 (by omega) ?_
  intro u2 H2
  obtain ⟨gc, pc, tm, ce, rc, tk, co, ln, ki, nm, nu, pr, fa⟩ := u2
  refine mx_add1 H2 (by omega) ?_
  intro u3 H3
  obtain ⟨gc, pc, tm, ce, rc, tk, co, ln, ki, nm, nu, pr, fa⟩ := u3
  exact K _ H3
theorem mx_putn {post : Int32 → SX → Prop} {u : SX} (H : mq_XR n D m T C s u) {a b c : Int32} (hn : ¬ mq_mp a ∨ ¬ mq_mp b ∨ ¬ mq_mp c ∨ 20 < m 3 + mq_a1 a + mq_a1 b + mq_a1 c) (h : post 0 u) : wpX_put post u a b c := by
  have ba := mq_a1_le a
  have bb := mq_a1_le b
  have bc := mq_a1_le c
  obtain ⟨gc, pc, tm, ce, rc, tk, co, ln, ki, nm, nu, pr, fa⟩ := u
  unfold wpX_put
  dsimp only
  refine mx_mp (fun ha => ?_) (fun _ => br_t rfl h)
  refine br_f (by decide) ?_
  refine mx_mp (fun hb => ?_) (fun _ => br_t rfl h)
  refine br_f (by decide) ?_
  refine mx_mp (fun hc => ?_) (fun _ => br_t rfl h)
  refine br_f (by decide) ?_
  refine mp_a1 (W := fun z => wX_put_33 post a b c z gc pc tm ce rc tk co ln ki nm nu pr fa) ?_
  refine mp_a1 (W := fun z => wX_put_43 post a b c z (nI (mq_a1 a)) gc pc tm ce rc tk co ln ki nm nu pr fa) ?_
  refine mp_a1 (W := fun z => wX_put_54 post a b c z (nI (mq_a1 a) + nI (mq_a1 b)) gc pc tm ce rc tk co ln ki nm nu pr fa) ?_
  refine nm_r (e' := nI (mq_a1 a + mq_a1 b + mq_a1 c)) (by rw [nI_add, nI_add]) ?_
  have h1 := H.2.1.1 3 (by decide)
  have h20 := h1.1
  rw [h1.2, nI_add]
  have h4 : 20 < m 3 + mq_a1 a + mq_a1 b + mq_a1 c := ((hn.resolve_left (mn_nn ha)).resolve_left (mn_nn hb)).resolve_left (mn_nn hc)
  exact br_f (nI_ge (a := 20) (by omega) (by omega)) h
theorem my_put {post : Int32 → SY → Prop} {u : SY} (H : mq_YR n D m T C s u) {a b c : Int32} (ha : mq_mp a) (hb : mq_mp b) (hc : mq_mp c) (hm : m 3 + mq_a1 a + mq_a1 b + mq_a1 c ≤ 20)
    (K : ∀ u', mq_YR n D (mq_m1 (mq_m1 (mq_m1 m a) b) c) (mq_T1 (mq_m1 (mq_m1 m a) b) (mq_T1 (mq_m1 m a) (mq_T1 m T a a) b b) c c) (mq_T1 (mq_m1 (mq_m1 m a) b) (mq_T1 (mq_m1 m a) (mq_T1 m C a 0) b 0) c 0) s u' → post 1 u') : wpY_put post u a b c := by
  have q1 := mq_m1_3 m a
  have q2 := mq_m1_3 (mq_m1 m a) b
  obtain ⟨tp, gr, fu, pp, ce, rc, tk, co, ln, nm, nu, gn, gk, gs⟩ := u
  refine mp_a1 (W := fun z => wY_put_10 post a b c z tp gr fu pp ce rc tk co ln nm nu gn gk gs) ?_
  refine mp_a1 (W := fun z => wY_put_20 post a b c z (nI (mq_a1 a)) tp gr fu pp ce rc tk co ln nm nu gn gk gs) ?_
  refine mp_a1 (W := fun z => wY_put_31 post a b c z (nI (mq_a1 a) + nI (mq_a1 b)) tp gr fu pp ce rc tk co ln nm nu gn gk gs) ?_
  refine nm_r (e' := nI (mq_a1 a + mq_a1 b + mq_a1 c)) (by rw [nI_add, nI_add]) ?_
  refine my_mp (fun _ => ?_) (fun z => absurd ha z)
  refine br_f (by decide) ?_
  refine my_mp (fun _ => ?_) (fun z => absurd hb z)
  refine br_f (by decide) ?_
  refine my_mp (fun _ => ?_) (fun z => absurd hc z)
  refine br_f (by decide) ?_
  have h1 := (H.2.1.1 3 (by decide)).2
  rw [h1, nI_add]
  refine br_t (nI_le (b := 20) (by omega) (by decide)) ?_
  refine my_add1 H ha (by omega) ?_
  intro u1 H1
  obtain ⟨tp, gr, fu, pp, ce, rc, tk, co, ln, nm, nu, gn, gk, gs⟩ := u1
  refine my_add1 H1 hb (by omega) ?_
  intro u2 H2
  obtain ⟨tp, gr, fu, pp, ce, rc, tk, co, ln, nm, nu, gn, gk, gs⟩ := u2
  refine my_add1 H2 hc (by omega) ?_
  intro u3 H3
  obtain ⟨tp, gr, fu, pp, ce, rc, tk, co, ln, nm, nu, gn, gk, gs⟩ := u3
  exact K _ H3
theorem my_putn {post : Int32 → SY → Prop} {u : SY} (H : mq_YR n D m T C s u) {a b c : Int32} (hn : ¬ mq_mp a ∨ ¬ mq_mp b ∨ ¬ mq_mp c ∨ 20 < m 3 + mq_a1 a + mq_a1 b + mq_a1 c) (h : post 0 u) : wpY_put post u a b c := by
  have ba := mq_a1_le a
  have bb := mq_a1_le b
  have bc := mq_a1_le c
  obtain ⟨tp, gr, fu, pp, ce, rc, tk, co, ln, nm, nu, gn, gk, gs⟩ := u
  refine mp_a1 (W := fun z => wY_put_10 post a b c z tp gr fu pp ce rc tk co ln nm nu gn gk gs) ?_
  refine mp_a1 (W := fun z => wY_put_20 post a b c z (nI (mq_a1 a)) tp gr fu pp ce rc tk co ln nm nu gn gk gs) ?_
  refine mp_a1 (W := fun z => wY_put_31 post a b c z (nI (mq_a1 a) + nI (mq_a1 b)) tp gr fu pp ce rc tk co ln nm nu gn gk gs) ?_
  refine nm_r (e' := nI (mq_a1 a + mq_a1 b + mq_a1 c)) (by rw [nI_add, nI_add]) ?_
  refine my_mp (fun ha => ?_) (fun _ => br_t rfl h)
  refine br_f (by decide) ?_
  refine my_mp (fun hb => ?_) (fun _ => br_t rfl h)
  refine br_f (by decide) ?_
  refine my_mp (fun hc => ?_) (fun _ => br_t rfl h)
  refine br_f (by decide) ?_
  have h1 := H.2.1.1 3 (by decide)
  have h20 := h1.1
  rw [h1.2, nI_add]
  have h4 : 20 < m 3 + mq_a1 a + mq_a1 b + mq_a1 c := ((hn.resolve_left (mn_nn ha)).resolve_left (mn_nn hb)).resolve_left (mn_nn hc)
  exact br_f (nI_ge (a := 20) (by omega) (by omega)) h
theorem i_vc_put {k : Nat} {u : SX} {v : SY} (I : i_Rel k u v) (hk : k + 5 ≤ 2560) (v1 : Int32) (v2 : Int32) (v3 : Int32) : wpX_put (fun r u' => wpY_put (fun r' v' => r' = r ∧ i_Rel (k + 5) u' v') v v1 v2 v3) u v1 v2 v3 := by
  have I2 := I
  obtain ⟨n, D, m, T, C, s, hI, hX, hY⟩ := I
  by_cases ha : mq_mp v1
  · by_cases hb : mq_mp v2
    · by_cases hc : mq_mp v3
      · by_cases hm : m 3 + mq_a1 v1 + mq_a1 v2 + mq_a1 v3 ≤ 20
        · exact mx_put hX ha hb hc hm (fun u' hX' => my_put hY ha hb hc hm (fun v' hY' => ⟨rfl, _, _, _, _, _, _, ⟨mq_ei_1 (mq_ei_1 (mq_ei_1 hI.1 (mq_mp_tk ha)) (mq_mp_tk hb)) (mq_mp_tk hc), hI.2⟩, hX', hY'⟩))
        · have h : ¬ mq_mp v1 ∨ ¬ mq_mp v2 ∨ ¬ mq_mp v3 ∨ 20 < m 3 + mq_a1 v1 + mq_a1 v2 + mq_a1 v3 := Or.inr (Or.inr (Or.inr (Nat.lt_of_not_le hm)))
          exact mx_putn hX h (my_putn hY h ⟨rfl, I2⟩)
      · exact mx_putn hX (Or.inr (Or.inr (Or.inl hc))) (my_putn hY (Or.inr (Or.inr (Or.inl hc))) ⟨rfl, I2⟩)
    · exact mx_putn hX (Or.inr (Or.inl hb)) (my_putn hY (Or.inr (Or.inl hb)) ⟨rfl, I2⟩)
  · exact mx_putn hX (Or.inl ha) (my_putn hY (Or.inl ha) ⟨rfl, I2⟩)
/-! constant -/
theorem mx_con {post : Int32 → SX → Prop} {u : SX} (H : mq_XR n D m T C s u) {y : Int32} (hm : m 3 < 20)
    (K : ∀ u', mq_XR n D (mq_nS m 3 (m 3 + 1)) (mq_fS T 3 (m 3) 40) (mq_fS C 3 (m 3) y) s u' → post 1 u') : wpX_constant post u y := by
  obtain ⟨gc, pc, tm, ce, rc, tk, co, ln, ki, nm, nu, pr, fa⟩ := u
  have h1 := (H.2.1.1 3 (by decide)).2
  refine br_t (by rw [h1]; exact nI_lt (b := 20) hm (by decide)) (mx_add H (by decide) hm ?_)
  intro u1 H1
  obtain ⟨gc, pc, tm, ce, rc, tk, co, ln, ki, nm, nu, pr, fa⟩ := u1
  exact K _ H1
theorem my_con {post : Int32 → SY → Prop} {u : SY} (H : mq_YR n D m T C s u) {y : Int32} (hm : m 3 < 20)
    (K : ∀ u', mq_YR n D (mq_nS m 3 (m 3 + 1)) (mq_fS T 3 (m 3) 40) (mq_fS C 3 (m 3) y) s u' → post 1 u') : wpY_constant post u y := by
  obtain ⟨tp, gr, fu, pp, ce, rc, tk, co, ln, nm, nu, gn, gk, gs⟩ := u
  have h1 := (H.2.1.1 3 (by decide)).2
  refine br_f (by rw [h1]; exact fun e => absurd ((nI_eq (b := 20) (by omega) (by decide)).mp e) (by omega)) (my_add H (by decide) hm ?_)
  intro u1 H1
  obtain ⟨tp, gr, fu, pp, ce, rc, tk, co, ln, nm, nu, gn, gk, gs⟩ := u1
  exact K _ H1
theorem mx_conn {post : Int32 → SX → Prop} {u : SX} (H : mq_XR n D m T C s u) {y : Int32} (hm : m 3 = 20) (h : post 0 u) : wpX_constant post u y := by
  obtain ⟨gc, pc, tm, ce, rc, tk, co, ln, ki, nm, nu, pr, fa⟩ := u
  have h1 := (H.2.1.1 3 (by decide)).2
  exact br_f (by rw [h1, hm]; decide) h
theorem my_conn {post : Int32 → SY → Prop} {u : SY} (H : mq_YR n D m T C s u) {y : Int32} (hm : m 3 = 20) (h : post 0 u) : wpY_constant post u y := by
  obtain ⟨tp, gr, fu, pp, ce, rc, tk, co, ln, nm, nu, gn, gk, gs⟩ := u
  have h1 := (H.2.1.1 3 (by decide)).2
  exact br_t (by rw [h1, hm]; rfl) h
theorem mx_m20 {u : SX} (H : mq_XR n D m T C s u) : ∀ e, e < 4 → m e ≤ 20 := by
  obtain ⟨gc, pc, tm, ce, rc, tk, co, ln, ki, nm, nu, pr, fa⟩ := u
  exact fun e he => (H.2.1.1 e he).1
theorem i_vc_constant {k : Nat} {u : SX} {v : SY} (I : i_Rel k u v) (hk : k + 5 ≤ 2560) (v1 : Int32) : wpX_constant (fun r u' => wpY_constant (fun r' v' => r' = r ∧ i_Rel (k + 5) u' v') v v1) u v1 := by
  have I2 := I
  obtain ⟨n, D, m, T, C, s, hI, hX, hY⟩ := I
  have h20 := mx_m20 hX 3 (by decide)
  by_cases h : m 3 = 20
  · exact mx_conn hX h (my_conn hY h ⟨rfl, I2⟩)
  · exact mx_con hX (by omega) (fun u' hX' => my_con hY (by omega) (fun v' hY' => ⟨rfl, _, _, _, _, _, _, ⟨mq_ei_ad hI.1 (by decide), hI.2⟩, hX', hY'⟩))
end MQ8
