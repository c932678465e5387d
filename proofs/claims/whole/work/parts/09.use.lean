section MQ9
variable {n : Nat → Nat} {D : Nat → Nat → Int32} {m : Nat → Nat} {T C : Nat → Nat → Int32} {s : MqG}
/-! tokens -/
theorem mx_oc {post : Int32 → Prop} {t : Int32} (h : post (nI (mq_ar t))) : wpX_operandCount post t := by
  unfold mq_ar at h
  by_cases c5 : t ≤ 5
  · rw [if_pos (Or.inl c5)] at h
    exact br_t c5 h
  · refine br_f c5 ?_
    by_cases c40 : t = 40
    · rw [if_pos (Or.inr c40)] at h
      exact br_t c40 h
    · refine br_f c40 ?_
      rw [if_neg (fun z => z.elim c5 c40)] at h
      by_cases c15 : t = 15
      · rw [if_pos (Or.inl c15)] at h
        exact br_t c15 h
      · refine br_f c15 ?_
        by_cases c32 : t = 32
        · rw [if_pos (Or.inr (Or.inl c32))] at h
          exact br_t c32 h
        · refine br_f c32 ?_
          by_cases c33 : t = 33
          · rw [if_pos (Or.inr (Or.inr c33))] at h
            exact br_t c33 h
          · refine br_f c33 ?_
            rw [if_neg (fun z => z.elim c15 (fun z => z.elim c32 c33))] at h
            by_cases c34 : t = 34
            · rw [if_pos c34] at h
              exact br_t c34 h
            · rw [if_neg c34] at h
              exact br_f c34 h
theorem mq_tk10 {t : Int32} (h : t ∈ mq_tk) : t < 10 ↔ t ≤ 5 := by
  revert t
  decide +kernel
theorem my_oc {post : Int32 → Prop} {t : Int32} (ht : t ∈ mq_tk) (h : post (nI (mq_ar t))) : wpY_operands post t := by
  unfold mq_ar at h
  by_cases c5 : t ≤ 5
  · rw [if_pos (Or.inl c5)] at h
    exact br_t ((mq_tk10 ht).mpr c5) h
  · refine br_f (fun z => c5 ((mq_tk10 ht).mp z)) ?_
    by_cases c40 : t = 40
    · rw [if_pos (Or.inr c40)] at h
      exact br_t c40 h
    · refine br_f c40 ?_
      rw [if_neg (fun z => z.elim c5 c40)] at h
      by_cases c34 : t = 34
      · subst c34
        exact br_t rfl h
      · refine br_f c34 ?_
        by_cases c15 : t = 15
        · rw [if_pos (Or.inl c15)] at h
          exact br_t c15 h
        · refine br_f c15 ?_
          by_cases c32 : t = 32
          · rw [if_pos (Or.inr (Or.inl c32))] at h
            exact br_t c32 h
          · refine br_f c32 ?_
            by_cases c33 : t = 33
            · rw [if_pos (Or.inr (Or.inr c33))] at h
              exact br_t c33 h
            · refine br_f c33 ?_
              rw [if_neg (fun z => z.elim c15 (fun z => z.elim c32 c33)), if_neg c34] at h
              exact h
theorem mx_ok {post : Int32 → Prop} {t : Int32} {k : Nat} (hk : k < 2 ^ 31) (h : post (mq_k2 (mq_wt t k))) : wpX_operandKind post t (nI k) := by
  unfold mq_wt at h
  by_cases c30 : t = 30
  · subst c30
    exact br_t rfl (br_f (by decide) h)
  · refine br_f c30 ?_
    by_cases c31 : t = 31
    · subst c31
      exact br_t rfl (br_f (by decide) h)
    · refine br_f c31 ?_
      by_cases c32 : t = 32
      · subst c32
        exact br_t rfl (br_f (by decide) h)
      · refine br_f c32 (br_t rfl ?_)
        rw [decide_eq_false c30, decide_eq_false c31, decide_eq_false c32] at h
        by_cases c34 : t = 34
        · refine br_t c34 ?_
          rw [decide_eq_true c34] at h
          by_cases k0 : k = 0
          · subst k0
            exact br_t rfl h
          · rw [decide_eq_false k0] at h
            exact br_f (nI_ne0 (by omega) hk) h
        · rw [decide_eq_false c34] at h
          exact br_f c34 h
def mq_b1 : Bool → Int32
  | true => 1
  | false => 0
theorem mq_tk3032 {t : Int32} (h : t ∈ mq_tk) : (¬ t < 30 ∧ t ≤ 32) ↔ (t = 30 ∨ t = 31 ∨ t = 32) := by
  revert t
  decide +kernel
theorem my_wt {post : Int32 → Prop} {t : Int32} (ht : t ∈ mq_tk) {k : Nat} (hk : k < 2 ^ 31) (h : post (mq_b1 (mq_wt t k))) : wpY_wantsTruth post t (nI k) := by
  have q : ¬ (t = 30 ∨ t = 31 ∨ t = 32) → wY_wantsTruth_12 post t (nI k) := by
    intro z
    have c30 : ¬ t = 30 := fun e => z (Or.inl e)
    have c31 : ¬ t = 31 := fun e => z (Or.inr (Or.inl e))
    have c32 : ¬ t = 32 := fun e => z (Or.inr (Or.inr e))
    unfold mq_wt at h
    rw [decide_eq_false c30, decide_eq_false c31, decide_eq_false c32] at h
    by_cases c34 : t = 34
    · refine br_t c34 ?_
      rw [decide_eq_true c34] at h
      by_cases k0 : k = 0
      · subst k0
        exact br_t rfl h
      · rw [decide_eq_false k0] at h
        exact br_f (nI_ne0 (by omega) hk) h
    · rw [decide_eq_false c34] at h
      exact br_f c34 h
  refine br_c (fun c => q (fun z => ((mq_tk3032 ht).mpr z).1 c)) (fun c => br_c (fun c' => ?_) (fun c' => q (fun z => c' ((mq_tk3032 ht).mpr z).2)))
  have e : mq_wt t k = true := by
    unfold mq_wt
    rcases (mq_tk3032 ht).mp ⟨c, c'⟩ with rfl | rfl | rfl
    · rfl
    · rfl
    · rfl
  rw [e] at h
  exact h
theorem mx_rk {post : Int32 → Prop} {t : Int32} (h : post (mq_k2 (mq_tr t))) : wpX_resultKind post t := by
  unfold mq_tr at h
  by_cases c20 : t < 20
  · rw [decide_eq_false (Int32.not_le.mpr c20)] at h
    exact br_t c20 h
  · refine br_f c20 ?_
    rw [decide_eq_true (Int32.not_lt.mp c20)] at h
    by_cases c33 : 33 < t
    · rw [decide_eq_false (Int32.not_le.mpr c33)] at h
      exact br_t c33 h
    · rw [decide_eq_true (Int32.not_lt.mp c33)] at h
      exact br_f c33 h
theorem my_gt {post : Int32 → Prop} {t : Int32} (h : post (mq_b1 (mq_tr t))) : wpY_givesTruth post t := by
  unfold mq_tr at h
  by_cases c20 : t < 20
  · rw [decide_eq_false (Int32.not_le.mpr c20)] at h
    exact br_t c20 h
  · refine br_f c20 ?_
    rw [decide_eq_true (Int32.not_lt.mp c20)] at h
    by_cases c33 : 33 < t
    · rw [decide_eq_false (Int32.not_le.mpr c33)] at h
      exact br_t c33 h
    · rw [decide_eq_true (Int32.not_lt.mp c33)] at h
      exact br_f c33 h
theorem mq_k2_inj {a b : Bool} (h : mq_k2 a = mq_k2 b) : a = b := by
  revert a b
  decide
theorem mq_b1_inj {a b : Bool} (h : mq_b1 a = mq_b1 b) : a = b := by
  revert a b
  decide
theorem mq_k2_0 (b : Bool) : ¬ (0 : Int32) = mq_k2 b := by
  revert b
  decide
/-! X: kindOfPending -/
theorem mx_kp43 {post : Int32 → SX → Prop} {J : Int32 → Int32 → (Nat → Int32) → (Nat → Int32) → (Nat → Int32) → (Nat → Int32) → (Nat → Int32) → (Nat → Int32) → (Nat → Int64) → (Nat → Int32) → (Nat → Int32) → (Nat → Int64) → Prop} {gc pc tm : Int32} {ce rc tk co ln ki : Nat → Int32} {nm : Nat → Int64} {nu pr : Nat → Int32} {fa : Nat → Int64} {t x3 : Int32} {h : Nat} {k : Nat → Bool} (hh : h < 20) (ha : mq_ar t ≤ h) (HK : mq_KX ki h k)
    (K0 : ¬ (∀ j, j < mq_ar t → k (h - 1 - j) = mq_wt t j) → post 0 (gc, pc, tm, ce, rc, tk, co, ln, ki, nm, nu, pr, fa))
    (K : (∀ j, j < mq_ar t → k (h - 1 - j) = mq_wt t j) → J (nI (19 - (h - mq_ar t))) (x3 + (-1)) ce rc tk co ln (upd ki (19 - (h - mq_ar t)) (mq_k2 (mq_tr t))) nm nu pr fa) :
    ∀ e q, q + e = mq_ar t → (∀ j, j < q → k (h - 1 - j) = mq_wt t j) → wX_kindOfPending_43 post J (nI (20 - h)) x3 t (nI (mq_ar t)) gc pc tm ce rc tk co ln ki nm nu pr fa (e + 1) (nI q) := by
  have h3 := mq_ar3 t
  intro e
  induction e with
  | zero =>
    intro q hq hall
    have hq : q = mq_ar t := by omega
    subst hq
    refine br_t (nI_le (Nat.le_refl _) (by omega)) (nm_r (e' := nI (19 - (h - mq_ar t))) ?_ ?_)
    · rw [nI_add, mn_s (by omega)]
      exact congrArg nI (by omega)
    · refine mx_rk ?_
      rw [nI_clamp (by omega)]
      exact ⟨vp_in_nI (by omega) (by decide), nm_e (nm_e (K hall))⟩
  | succ e ih =>
    intro q hq hall
    refine br_f (nI_ge (by omega) (by omega)) ?_
    refine mx_ok (by omega) ?_
    rw [nI_add, nI_clamp (by omega)]
    refine ⟨vp_in_nI (by omega) (by decide), ?_⟩
    have e1 : ki (20 - h + q) = mq_k2 (k (h - 1 - q)) := by
      rw [← HK (h - 1 - q) (by omega)]
      exact congrArg ki (by omega)
    rw [e1]
    by_cases c : k (h - 1 - q) = mq_wt t q
    · refine br_t (congrArg mq_k2 c) (nm_r (nI_1 q) (ih (q + 1) (by omega) ?_))
      intro j hj
      by_cases ej : j = q
      · subst ej; exact c
      · exact hall j (by omega)
    · exact br_f (fun z => c (mq_k2_inj z)) (K0 (fun z => c (z q (by omega))))
theorem mx_kp7 {post : Int32 → SX → Prop} {gc pc tm : Int32} {ce rc tk co ln : Nat → Int32} {nm : Nat → Int64} {nu pr : Nat → Int32} {fa : Nat → Int64} {V : Nat → Int32} {len : Nat} {b : Bool} (hl : len ≤ 20) (ht : ∀ i, i < len → tk (60 + i) = V i)
    (K1 : ∀ ki, mq_WK V len b → post (mq_k2 b) (gc, pc, tm, ce, rc, tk, co, ln, ki, nm, nu, pr, fa)) (K0 : ∀ ki x, ¬ x = mq_k2 b → ¬ mq_WK V len b → post x (gc, pc, tm, ce, rc, tk, co, ln, ki, nm, nu, pr, fa)) :
    ∀ r d, r + d = len → (∀ d', d' < d → mq_ok V len d') → ∀ ki, mq_KX ki (mq_h V len d) (mq_k V len d) → wX_kindOfPending_7 post gc pc tm (r + 1) (nI (20 - mq_h V len d)) (nI r + (-1)) ce rc tk co ln ki nm nu pr fa := by
  intro r
  induction r with
  | zero =>
    intro d hd hok ki HK
    have hd : d = len := by omega
    subst hd
    refine br_t (by rw [mn_0m]; decide) ?_
    have hle := mq_h_le V d d
    by_cases h1 : mq_h V d d = 1
    · refine br_t (by rw [h1]; rfl) ?_
      have e1 : ki 19 = mq_k2 (mq_k V d d 0) := HK 0 (by omega)
      rw [e1]
      by_cases eb : mq_k V d d 0 = b
      · rw [eb]
        exact K1 ki ⟨hok, h1, eb⟩
      · exact K0 ki _ (fun z => eb (mq_k2_inj z)) (fun z => eb z.2.2)
    · refine br_f ?_ (K0 ki _ (mq_k2_0 b) (fun z => h1 z.2.1))
      intro z
      have z2 : 20 - mq_h V d d = 19 := (nI_eq (b := 19) (by omega) (by decide)).mp z
      omega
  | succ r ih =>
    intro d hd hok ki HK
    have er : len - 1 - d = r := by omega
    have hle := mq_h_le V len d
    have ha3 := mq_ar3 (V r)
    rw [pk_m1]
    refine br_f (nI_pos (by omega)) ?_
    rw [mi_60, nI_clamp (by omega), ht r (by omega)]
    refine ⟨vp_in_nI (by omega) (by decide), nm_e ?_⟩
    refine mx_oc ?_
    rw [nI_add]
    have hokd : mq_ok V len d ↔ (mq_ar (V r) ≤ mq_h V len d ∧ ∀ k, k < mq_ar (V r) → mq_k V len d (mq_h V len d - 1 - k) = mq_wt (V r) k) := by
      unfold mq_ok
      rw [er]
    by_cases ha : mq_ar (V r) ≤ mq_h V len d
    · refine br_t (nI_le (b := 20) (by omega) (by decide)) ⟨mq_ar (V r) + 1, ?_⟩
      refine mx_kp43 (by omega) ha HK ?_ ?_ (mq_ar (V r)) 0 (by omega) (fun j hj => absurd hj (Nat.not_lt_zero j))
      · intro z
        exact K0 ki _ (mq_k2_0 b) (fun w => z ((hokd.mp (w.1 d (by omega))).2))
      · intro hall
        have hs : mq_h V len (d + 1) = mq_h V len d - mq_ar (V r) + 1 := by rw [mq_h_s, er]
        have hks : mq_k V len (d + 1) = fun j => if j = mq_h V len d - mq_ar (V r) then mq_tr (V r) else mq_k V len d j := by
          funext j
          show (if j = mq_h V len d - mq_ar (V (len - 1 - d)) then mq_tr (V (len - 1 - d)) else mq_k V len d j) = _
          rw [er]
        have h2 := ih (d + 1) (by omega) (fun d' hd' => by
          by_cases e1 : d' = d
          · rw [e1]; exact hokd.mpr ⟨ha, hall⟩
          · exact hok d' (by omega)) (upd ki (19 - (mq_h V len d - mq_ar (V r))) (mq_k2 (mq_tr (V r)))) (by rw [hs, hks]; exact mq_kx_p HK (by omega) (by omega) rfl)
        rw [hs] at h2
        have e3 : 20 - (mq_h V len d - mq_ar (V r) + 1) = 19 - (mq_h V len d - mq_ar (V r)) := by omega
        rw [e3] at h2
        exact h2
    · refine br_f (nI_ge (a := 20) (by omega) (by omega)) ?_
      exact K0 ki _ (mq_k2_0 b) (fun w => ha ((hokd.mp (w.1 d (by omega))).1))
/-! Y: right -/
theorem my_r50 {post : Int32 → SY → Prop} {J : Int32 → Int32 → (Nat → Int32) → (Nat → Int32) → (Nat → Int32) → (Nat → Int32) → (Nat → Int32) → (Nat → Int64) → (Nat → Int32) → (Nat → Int32) → (Nat → Int64) → (Nat → Int64) → Prop} {gr fu pp : Int32} {ce rc tk co ln : Nat → Int32} {nm : Nat → Int64} {nu gn : Nat → Int32} {gk gs : Nat → Int64} {t x1 x2 : Int32} {h : Nat} {k : Nat → Bool} (hh : h < 20) (ht : t ∈ mq_tk) (ha : mq_ar t ≤ h) (HK : mq_KY nm h k)
    (K0 : ¬ (∀ j, j < mq_ar t → k (h - 1 - j) = mq_wt t j) → post 0 (nI h, gr, fu, pp, ce, rc, tk, co, ln, nm, nu, gn, gk, gs))
    (K : (∀ j, j < mq_ar t → k (h - 1 - j) = mq_wt t j) → J (x2 + (-1)) (nI (h - mq_ar t + 1)) ce rc tk co ln (vp_updL nm (h - mq_ar t) (mq_k1 (mq_tr t))) nu gn gk gs) :
    ∀ e q, q + e = mq_ar t → (∀ j, j < q → k (h - 1 - j) = mq_wt t j) → wY_right_50 post J x1 x2 t (nI (mq_ar t)) (nI h) gr fu pp ce rc tk co ln nm nu gn gk gs (e + 1) (nI q) := by
  have h3 := mq_ar3 t
  intro e
  induction e with
  | zero =>
    intro q hq hall
    have hq : q = mq_ar t := by omega
    subst hq
    refine br_t (nI_le (Nat.le_refl _) (by omega)) (nm_r (e' := nI (h - mq_ar t)) (pk_sub ha) ?_)
    refine my_gt ?_
    have q2 : ∀ z0 : Int64, z0 = mq_k1 (mq_tr t) → wY_right_133 post J x1 x2 z0 (nI (h - mq_ar t)) (nI (h - mq_ar t)) gr fu pp ce rc tk co ln nm nu gn gk gs := by
      intro z0 e0
      refine ⟨vp_in_nI (by omega) (by decide), ?_⟩
      rw [nI_clamp (by omega), e0]
      exact nm_e (nm_r (nI_1 _) (nm_e (K hall)))
    cases hb : mq_tr t with
    | false =>
      rw [hb] at q2
      exact br_t rfl (q2 0 rfl)
    | true =>
      rw [hb] at q2
      exact br_f (by decide) (q2 1 rfl)
  | succ e ih =>
    intro q hq hall
    refine br_f (nI_ge (by omega) (by omega)) ?_
    rw [mn_s (by omega), pk_sub (by omega), nI_clamp (by omega)]
    refine ⟨vp_in_nI (by omega) (by decide), ?_⟩
    rw [HK (h - 1 - q) (by omega)]
    have q2 : wY_right_81 post J (wY_right_50 post J x1 x2 t (nI (mq_ar t)) (nI h) gr fu pp ce rc tk co ln nm nu gn gk gs (e + 1)) x1 x2 t (nI (mq_ar t)) (nI q) (mq_b1 (k (h - 1 - q))) (nI h) gr fu pp ce rc tk co ln nm nu gn gk gs := by
      refine my_wt ht (by omega) ?_
      by_cases c : k (h - 1 - q) = mq_wt t q
      · refine br_t (congrArg mq_b1 c) (nm_r (nI_1 q) (ih (q + 1) (by omega) ?_))
        intro j hj
        by_cases ej : j = q
        · subst ej; exact c
        · exact hall j (by omega)
      · exact br_f (fun z => c (mq_b1_inj z)) (K0 (fun z => c (z q (by omega))))
    cases hb : k (h - 1 - q) with
    | false =>
      rw [hb] at q2
      exact br_f (by decide) q2
    | true =>
      rw [hb] at q2
      exact br_t rfl q2
theorem my_r17 {post : Int32 → SY → Prop} {gr fu pp : Int32} {ce rc tk co ln : Nat → Int32} {nu gn : Nat → Int32} {gk gs : Nat → Int64} {V : Nat → Int32} {len : Nat} {b : Bool} (hl : len ≤ 20) (ht : ∀ i, i < len → tk (60 + i) = V i) (hV : ∀ i, i < len → V i ∈ mq_tk)
    (K1 : ∀ tp nm, mq_WK V len b → post 1 (tp, gr, fu, pp, ce, rc, tk, co, ln, nm, nu, gn, gk, gs)) (K0 : ∀ tp nm, ¬ mq_WK V len b → post 0 (tp, gr, fu, pp, ce, rc, tk, co, ln, nm, nu, gn, gk, gs)) :
    ∀ r d, r + d = len → (∀ d', d' < d → mq_ok V len d') → ∀ nm, mq_KY nm (mq_h V len d) (mq_k V len d) → wY_right_17 post (mq_b1 b) gr fu pp (r + 1) (nI (60 + r) + (-1)) (nI (mq_h V len d)) ce rc tk co ln nm nu gn gk gs := by
  intro r
  induction r with
  | zero =>
    intro d hd hok nm HK
    have hd : d = len := by omega
    subst hd
    refine br_t (by decide) ?_
    have hle := mq_h_le V d d
    by_cases h1 : mq_h V d d = 1
    · rw [h1]
      refine br_t rfl ?_
      have e1 : nm 0 = mq_k1 (mq_k V d d 0) := HK 0 (by omega)
      rw [e1]
      have q2 : wY_right_174 post (mq_b1 b) (mq_b1 (mq_k V d d 0)) 1 gr fu pp ce rc tk co ln nm nu gn gk gs := by
        by_cases eb : mq_k V d d 0 = b
        · exact br_t (congrArg mq_b1 eb) (K1 _ nm ⟨hok, h1, eb⟩)
        · exact br_f (fun z => eb (mq_b1_inj z)) (K0 _ nm (fun z => eb z.2.2))
      cases hb : mq_k V d d 0 with
      | false =>
        rw [hb] at q2
        exact br_f (by decide) q2
      | true =>
        rw [hb] at q2
        exact br_t rfl q2
    · refine br_f ?_ (K0 _ nm (fun z => h1 z.2.1))
      intro z
      exact h1 ((nI_eq (b := 1) (by omega) (by decide)).mp z)
  | succ r ih =>
    intro d hd hok nm HK
    have er : len - 1 - d = r := by omega
    have hle := mq_h_le V len d
    have ha3 := mq_ar3 (V r)
    rw [← Nat.add_assoc, pk_m1]
    refine br_f (nI_nlt (b := 60) (by omega) (by omega)) ?_
    rw [nI_clamp (by omega), ht r (by omega)]
    refine ⟨vp_in_nI (by omega) (by decide), nm_e ?_⟩
    refine my_oc (hV r (by omega)) ?_
    have hokd : mq_ok V len d ↔ (mq_ar (V r) ≤ mq_h V len d ∧ ∀ k, k < mq_ar (V r) → mq_k V len d (mq_h V len d - 1 - k) = mq_wt (V r) k) := by
      unfold mq_ok
      rw [er]
    by_cases ha : mq_ar (V r) ≤ mq_h V len d
    · refine br_t (nI_le ha (by omega)) ⟨mq_ar (V r) + 1, ?_⟩
      refine my_r50 (by omega) (hV r (by omega)) ha HK ?_ ?_ (mq_ar (V r)) 0 (by omega) (fun j hj => absurd hj (Nat.not_lt_zero j))
      · intro z
        exact K0 _ nm (fun w => z ((hokd.mp (w.1 d (by omega))).2))
      · intro hall
        have hs : mq_h V len (d + 1) = mq_h V len d - mq_ar (V r) + 1 := by rw [mq_h_s, er]
        have hks : mq_k V len (d + 1) = fun j => if j = mq_h V len d - mq_ar (V r) then mq_tr (V r) else mq_k V len d j := by
          funext j
          show (if j = mq_h V len d - mq_ar (V (len - 1 - d)) then mq_tr (V (len - 1 - d)) else mq_k V len d j) = _
          rw [er]
        have h2 := ih (d + 1) (by omega) (fun d' hd' => by
          by_cases e1 : d' = d
          · rw [e1]; exact hokd.mpr ⟨ha, hall⟩
          · exact hok d' (by omega)) (vp_updL nm (mq_h V len d - mq_ar (V r)) (mq_k1 (mq_tr (V r)))) (by rw [hs, hks]; exact mq_ky_p HK (by omega) rfl)
        rw [hs] at h2
        exact h2
    · refine br_f (nI_ge (by omega) (by omega)) ?_
      exact K0 _ nm (fun w => ha ((hokd.mp (w.1 d (by omega))).1))
end MQ9
