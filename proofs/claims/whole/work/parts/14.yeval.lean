section MQ14
theorem mn_lt1 {a : Nat} (h : a < 2 ^ 31) : nI a + (-1) < nI a := by
  by_cases h0 : a = 0
  · subst h0
    decide
  · rw [mn_m (by omega)]
    exact nI_lt (by omega) h
theorem mq_tk6 {t : Int32} (h : t ∈ mq_tk) : (6 ≤ t) ↔ ¬ t ≤ 5 := by
  revert t
  decide +kernel
/-! a column -/
theorem my_lf {post : SY → Prop} {J : Int32 → Int32 → Int32 → Int32 → Int32 → (Nat → Int32) → (Nat → Int32) → (Nat → Int32) → (Nat → Int32) → (Nat → Int32) → (Nat → Int64) → (Nat → Int32) → (Nat → Int32) → (Nat → Int64) → (Nat → Int64) → Prop} {gr fu pp : Int32} {ce rc tk co ln : Nat → Int32} {nm : Nat → Int64} {nu gn : Nat → Int32} {gk gs : Nat → Int64} {x1 x2 x3 x4 : Int32} {p k : Nat} {v : Int32} (hp : p < 24) (hk : k < 96) (hv : ce k = v)
    (K : ∀ x y, mq_ry false x y (mq_lf v) → J (x4 + (-1)) (nI (p + 1)) gr fu pp ce rc tk co ln (vp_updL nm p y) (upd nu p x) gn gk gs) : wY_evaluate_79 post J x1 x2 x3 x4 (nI k) (nI p) gr fu pp ce rc tk co ln nm nu gn gk gs := by
  have c1 : (nI k).toNatClampNeg = k := nI_clamp (by omega)
  have i1 : vp_in (nI k) 96 := vp_in_nI hk (by decide)
  refine br_f (nI_pos (by omega)) ⟨i1, ?_⟩
  rw [c1, hv]
  unfold mq_lf at K
  by_cases hm : v = -2147483648
  · rw [if_pos hm] at K
    refine br_t hm (br_f (by decide) ?_)
    unfold wY_evaluate_123
    refine my_push hp (Or.inr rfl) rfl ?_
    exact nm_e (K _ _ ⟨rfl, rfl⟩)
  · rw [if_neg hm] at K
    refine br_f hm (br_t rfl ⟨i1, ?_⟩)
    rw [c1, hv]
    unfold wY_evaluate_123
    refine my_push hp (Or.inl rfl) rfl ?_
    exact nm_e (K _ _ ⟨rfl, rfl⟩)
theorem my_lfm {post : SY → Prop} {J : Int32 → Int32 → Int32 → Int32 → Int32 → (Nat → Int32) → (Nat → Int32) → (Nat → Int32) → (Nat → Int32) → (Nat → Int32) → (Nat → Int64) → (Nat → Int32) → (Nat → Int32) → (Nat → Int64) → (Nat → Int64) → Prop} {gr fu pp : Int32} {ce rc tk co ln : Nat → Int32} {nm : Nat → Int64} {nu gn : Nat → Int32} {gk gs : Nat → Int64} {x1 x2 x3 x4 : Int32} {p : Nat} {v : Int32} (hp : p < 24) (hv : v = -2147483648)
    (K : ∀ x y, mq_ry false x y (mq_lf v) → J (x4 + (-1)) (nI (p + 1)) gr fu pp ce rc tk co ln (vp_updL nm p y) (upd nu p x) gn gk gs) : wY_evaluate_79 post J x1 x2 x3 x4 (-1) (nI p) gr fu pp ce rc tk co ln nm nu gn gk gs := by
  unfold mq_lf at K
  rw [if_pos hv] at K
  refine br_t (by decide) (br_f (by decide) ?_)
  unfold wY_evaluate_123
  refine my_push hp (Or.inr rfl) rfl ?_
  exact nm_e (K _ _ ⟨rfl, rfl⟩)
theorem my_ev20 {post : SY → Prop} {gr fu pp : Int32} {ce rc tk co ln : Nat → Int32} {gn : Nat → Int32} {gk gs : Nat → Int64} {V W P : Nat → Int32} {e len i : Nat} {x3 : Int32} (he : e < 4) (hl : len ≤ 20) (ht : ∀ i, i < len → tk (20 * e + i) = V i ∧ co (20 * e + i) = W i) (hV : ∀ i, i < len → V i ∈ mq_tk) (hok : ∀ d, d < len → mq_ok V len d)
    (hi : i < 16) (hc1 : ∀ c, c < 3 → ce (3 * i + c) = P c) (hc2 : (∃ j, j < 16 ∧ x3 = nI j ∧ ∀ c, 3 ≤ c → c < 6 → ce (48 + 3 * j + c - 3) = P c) ∨ (x3 = -1 ∧ ∀ c, 3 ≤ c → c < 6 → P c = -2147483648))
    (K : ∀ tp nm nu, mq_SY nu nm (mq_h V len len) (mq_k V len len) (mq_v V W P len len) → post (tp, gr, fu, pp, ce, rc, tk, co, ln, nm, nu, gn, gk, gs)) :
    ∀ r d, r + d = len → ∀ nm nu, mq_SY nu nm (mq_h V len d) (mq_k V len d) (mq_v V W P len d) → wY_evaluate_20 post (nI e) (nI i) x3 (r + 1) (nI (20 * e + r) + (-1)) (nI (mq_h V len d)) gr fu pp ce rc tk co ln nm nu gn gk gs := by
  intro r
  induction r with
  | zero =>
    intro d hd nm nu HS
    have hd : d = len := by omega
    subst hd
    exact br_t (by rw [mi_20']; exact mn_lt1 (by omega)) (K _ nm nu HS)
  | succ r ih =>
    intro d hd nm nu HS
    have er : len - 1 - d = r := by omega
    have hle := mq_h_le V len d
    have ha3 := mq_ar3 (V r)
    have hokd := hok d (by omega)
    unfold mq_ok at hokd
    rw [er] at hokd
    obtain ⟨ha, hw⟩ := hokd
    have hty := mq_ty (C := W) (P := P) hV d (by omega)
    have hs : mq_h V len (d + 1) = mq_h V len d - mq_ar (V r) + 1 := by rw [mq_h_s, er]
    have hks : mq_k V len (d + 1) = fun j => if j = mq_h V len d - mq_ar (V r) then mq_tr (V r) else mq_k V len d j := by
      funext j
      show (if j = mq_h V len d - mq_ar (V (len - 1 - d)) then mq_tr (V (len - 1 - d)) else mq_k V len d j) = _
      rw [er]
    have hvs : mq_v V W P len (d + 1) = fun j => if j = mq_h V len d - mq_ar (V r) then mq_val (V r) (W r) P (mq_v V W P len d (mq_h V len d - 1)) (mq_v V W P len d (mq_h V len d - 2)) (mq_v V W P len d (mq_h V len d - 3)) else mq_v V W P len d j := by
      funext j
      show (if j = mq_h V len d - mq_ar (V (len - 1 - d)) then mq_val (V (len - 1 - d)) (W (len - 1 - d)) P _ _ _ else mq_v V W P len d j) = _
      rw [er]
    have hpush : ∀ x y, mq_ry (mq_tr (V r)) x y (mq_val (V r) (W r) P (mq_v V W P len d (mq_h V len d - 1)) (mq_v V W P len d (mq_h V len d - 2)) (mq_v V W P len d (mq_h V len d - 3))) →
        wY_evaluate_20 post (nI e) (nI i) x3 (r + 1) (nI (20 * e + r) + (-1)) (nI (mq_h V len d - mq_ar (V r) + 1)) gr fu pp ce rc tk co ln (vp_updL nm (mq_h V len d - mq_ar (V r)) y) (upd nu (mq_h V len d - mq_ar (V r)) x) gn gk gs := by
      intro x y hxy
      have h2 := ih (d + 1) (by omega) (vp_updL nm (mq_h V len d - mq_ar (V r)) y) (upd nu (mq_h V len d - mq_ar (V r)) x) (by rw [hs, hks, hvs]; exact mq_sy_p HS (by omega) hxy)
      rw [hs] at h2
      exact h2
    rw [← Nat.add_assoc, pk_m1]
    refine br_f (by rw [mi_20']; exact nI_nlt (by omega) (by omega)) ?_
    have htr := ht r (by omega)
    rw [nI_clamp (by omega), htr.1, htr.2]
    refine ⟨vp_in_nI (by omega) (by decide), nm_e ?_⟩
    have i4 : vp_in (nI (20 * e + r)) 80 := vp_in_nI (by omega) (by decide)
    have hVr := hV r (by omega)
    generalize mq_v V W P len d = v at HS hpush hty
    generalize mq_k V len d = k at HS hw hty
    generalize mq_h V len d = h at HS hpush hle ha hw
    generalize V r = t at hpush hVr ha ha3 hw
    generalize W r = cc at hpush
    obtain ⟨q, hq⟩ : ∃ q, h - mq_ar t = q := ⟨_, rfl⟩
    rw [hq] at hpush
    by_cases c5 : t ≤ 5
    · refine br_f (fun z => (mq_tk6 hVr).mp z c5) ?_
      have e0 : mq_ar t = 0 := by unfold mq_ar; rw [if_pos (Or.inl c5)]
      have etr : mq_tr t = false := by
        unfold mq_tr
        rw [decide_eq_false (fun z => absurd (Int32.le_trans z c5) (by decide))]
        rfl
      have c40 : ¬ t = 40 := fun z => by rw [z] at c5; exact absurd c5 (by decide)
      rw [e0] at hq
      have hq : h = q := by omega
      subst hq
      obtain ⟨c, hc, ec⟩ := mq_tk5 hVr c5
      have hval : ∀ x y z, mq_val t cc P x y z = mq_lf (P c) := by
        intro x y z
        unfold mq_val
        rw [if_neg c40, if_pos c5, ec, nI_clamp (by omega)]
      have KK : ∀ x y, mq_ry false x y (mq_lf (P c)) → wY_evaluate_20 post (nI e) (nI i) x3 (r + 1) (nI (20 * e + r) + (-1)) (nI (h + 1)) gr fu pp ce rc tk co ln (vp_updL nm h y) (upd nu h x) gn gk gs := fun x y hxy => hpush x y (by rw [hval, etr]; exact hxy)
      by_cases c3 : 3 ≤ c
      · refine br_t (by rw [ec]; exact nI_le (a := 3) c3 (by omega)) ?_
        rcases hc2 with ⟨j, hj, ej, hcj⟩ | ⟨ej, hcj⟩
        · refine br_t (by rw [ej]; exact nI_pos' (by omega)) ?_
          have e6 : 48 + 3 * x3 + t - 3 = nI (48 + 3 * j + c - 3) := by
            rw [ej, ec, mi_3', show (48 : Int32) = nI 48 from rfl, nI_add, nI_add, show (3 : Int32) = nI 3 from rfl, pk_sub (by omega)]
          rw [e6]
          exact my_lf (by omega) (by omega) (hcj c c3 hc) KK
        · refine br_f (by rw [ej]; decide) ?_
          exact my_lfm (by omega) (hcj c c3 hc) KK
      · refine br_f (by rw [ec]; exact nI_ge (b := 3) (by omega) (by decide)) ?_
        have e6 : 3 * nI i + t = nI (3 * i + c) := by rw [ec, mi_3', nI_add]
        rw [e6]
        exact my_lf (by omega) (by omega) (hc1 c (by omega)) KK
    · refine br_t ((mq_tk6 hVr).mpr c5) ?_
      by_cases c40 : t = 40
      · have e0 : mq_ar t = 0 := by unfold mq_ar; rw [if_pos (Or.inr c40)]
        have etr : mq_tr t = false := by rw [c40]; decide
        rw [e0] at hq
        have hq : h = q := by omega
        subst hq
        refine br_t c40 ⟨i4, i4, ?_⟩
        have KK : ∀ x y, mq_ry false x y (mq_lf cc) → wY_evaluate_20 post (nI e) (nI i) x3 (r + 1) (nI (20 * e + r) + (-1)) (nI (h + 1)) gr fu pp ce rc tk co ln (vp_updL nm h y) (upd nu h x) gn gk gs := fun x y hxy => hpush x y (by unfold mq_val; rw [if_pos c40, etr]; exact hxy)
        unfold mq_lf at KK
        by_cases hm : cc = -2147483648
        · rw [if_pos hm] at KK
          refine br_t hm ?_
          unfold wY_evaluate_164
          refine my_push (by omega) (Or.inr rfl) rfl ?_
          exact nm_e (KK _ _ ⟨rfl, rfl⟩)
        · rw [if_neg hm] at KK
          refine br_f hm ?_
          unfold wY_evaluate_164
          refine my_push (by omega) (Or.inl rfl) rfl ?_
          exact nm_e (KK _ _ ⟨rfl, rfl⟩)
      · refine br_f c40 ?_
        have hval : ∀ x y z, mq_val t cc P x y z = mq_op t x y z := by
          intro x y z
          unfold mq_val
          rw [if_neg c40, if_neg c5]
        rcases mq_opc hVr c40 c5 with rfl | rfl | rfl | rfl | rfl | rfl | rfl | rfl | rfl | rfl | rfl | rfl | rfl | rfl | rfl | rfl
        · have e2 : mq_ar 10 = 2 := by decide
          rw [e2] at ha hq hw
          obtain ⟨p, rfl⟩ : ∃ p, h = p + 2 := ⟨h - 2, by omega⟩
          have hq : q = p := by omega
          subst hq
          have k0 : k (q + 1) = false := by
            have h9 := hw 0 (by omega)
            rw [show mq_wt 10 0 = false from by decide] at h9
            exact h9
          have r0 := HS (q + 1) (by omega)
          rw [k0] at r0
          have k1 : k q = false := by
            have h9 := hw 1 (by omega)
            rw [show mq_wt 10 1 = false from by decide] at h9
            exact h9
          have r1 := HS q (by omega)
          rw [k1] at r1
          refine my_h10 (c := v (q + 2 - 3)) (by omega) r0 r1 ?_
          intro x y hxy
          exact nm_e (hpush x y (by rw [hval, show mq_tr 10 = false from by decide]; exact hxy))
        · have e2 : mq_ar 11 = 2 := by decide
          rw [e2] at ha hq hw
          obtain ⟨p, rfl⟩ : ∃ p, h = p + 2 := ⟨h - 2, by omega⟩
          have hq : q = p := by omega
          subst hq
          have k0 : k (q + 1) = false := by
            have h9 := hw 0 (by omega)
            rw [show mq_wt 11 0 = false from by decide] at h9
            exact h9
          have r0 := HS (q + 1) (by omega)
          rw [k0] at r0
          have k1 : k q = false := by
            have h9 := hw 1 (by omega)
            rw [show mq_wt 11 1 = false from by decide] at h9
            exact h9
          have r1 := HS q (by omega)
          rw [k1] at r1
          refine my_h11 (c := v (q + 2 - 3)) (by omega) r0 r1 ?_
          intro x y hxy
          exact nm_e (hpush x y (by rw [hval, show mq_tr 11 = false from by decide]; exact hxy))
        · have e2 : mq_ar 12 = 2 := by decide
          rw [e2] at ha hq hw
          obtain ⟨p, rfl⟩ : ∃ p, h = p + 2 := ⟨h - 2, by omega⟩
          have hq : q = p := by omega
          subst hq
          have k0 : k (q + 1) = false := by
            have h9 := hw 0 (by omega)
            rw [show mq_wt 12 0 = false from by decide] at h9
            exact h9
          have r0 := HS (q + 1) (by omega)
          rw [k0] at r0
          have k1 : k q = false := by
            have h9 := hw 1 (by omega)
            rw [show mq_wt 12 1 = false from by decide] at h9
            exact h9
          have r1 := HS q (by omega)
          rw [k1] at r1
          refine my_h12 (c := v (q + 2 - 3)) (by omega) r0 r1 ?_
          intro x y hxy
          exact nm_e (hpush x y (by rw [hval, show mq_tr 12 = false from by decide]; exact hxy))
        · have e2 : mq_ar 13 = 2 := by decide
          rw [e2] at ha hq hw
          obtain ⟨p, rfl⟩ : ∃ p, h = p + 2 := ⟨h - 2, by omega⟩
          have hq : q = p := by omega
          subst hq
          have k0 : k (q + 1) = false := by
            have h9 := hw 0 (by omega)
            rw [show mq_wt 13 0 = false from by decide] at h9
            exact h9
          have r0 := HS (q + 1) (by omega)
          rw [k0] at r0
          have k1 : k q = false := by
            have h9 := hw 1 (by omega)
            rw [show mq_wt 13 1 = false from by decide] at h9
            exact h9
          have r1 := HS q (by omega)
          rw [k1] at r1
          refine my_h13 (c := v (q + 2 - 3)) (by omega) r0 r1 ?_
          intro x y hxy
          exact nm_e (hpush x y (by rw [hval, show mq_tr 13 = false from by decide]; exact hxy))
        · have e2 : mq_ar 14 = 2 := by decide
          rw [e2] at ha hq hw
          obtain ⟨p, rfl⟩ : ∃ p, h = p + 2 := ⟨h - 2, by omega⟩
          have hq : q = p := by omega
          subst hq
          have k0 : k (q + 1) = false := by
            have h9 := hw 0 (by omega)
            rw [show mq_wt 14 0 = false from by decide] at h9
            exact h9
          have r0 := HS (q + 1) (by omega)
          rw [k0] at r0
          have k1 : k q = false := by
            have h9 := hw 1 (by omega)
            rw [show mq_wt 14 1 = false from by decide] at h9
            exact h9
          have r1 := HS q (by omega)
          rw [k1] at r1
          refine my_h14 (c := v (q + 2 - 3)) (by omega) r0 r1 ?_
          intro x y hxy
          exact nm_e (hpush x y (by rw [hval, show mq_tr 14 = false from by decide]; exact hxy))
        · have e2 : mq_ar 15 = 1 := by decide
          rw [e2] at ha hq hw
          obtain ⟨p, rfl⟩ : ∃ p, h = p + 1 := ⟨h - 1, by omega⟩
          have hq : q = p := by omega
          subst hq
          have k0 : k q = false := by
            have h9 := hw 0 (by omega)
            rw [show mq_wt 15 0 = false from by decide] at h9
            exact h9
          have r0 := HS q (by omega)
          rw [k0] at r0
          refine my_h15 (b := v (q + 1 - 2)) (c := v (q + 1 - 3)) (by omega) r0 ?_
          intro x y hxy
          exact nm_e (hpush x y (by rw [hval, show mq_tr 15 = false from by decide]; exact hxy))
        · have e2 : mq_ar 16 = 2 := by decide
          rw [e2] at ha hq hw
          obtain ⟨p, rfl⟩ : ∃ p, h = p + 2 := ⟨h - 2, by omega⟩
          have hq : q = p := by omega
          subst hq
          have k0 : k (q + 1) = false := by
            have h9 := hw 0 (by omega)
            rw [show mq_wt 16 0 = false from by decide] at h9
            exact h9
          have r0 := HS (q + 1) (by omega)
          rw [k0] at r0
          have k1 : k q = false := by
            have h9 := hw 1 (by omega)
            rw [show mq_wt 16 1 = false from by decide] at h9
            exact h9
          have r1 := HS q (by omega)
          rw [k1] at r1
          refine my_h16 (c := v (q + 2 - 3)) (by omega) r0 r1 ?_
          intro x y hxy
          exact nm_e (hpush x y (by rw [hval, show mq_tr 16 = false from by decide]; exact hxy))
        · have e2 : mq_ar 20 = 2 := by decide
          rw [e2] at ha hq hw
          obtain ⟨p, rfl⟩ : ∃ p, h = p + 2 := ⟨h - 2, by omega⟩
          have hq : q = p := by omega
          subst hq
          have k0 : k (q + 1) = false := by
            have h9 := hw 0 (by omega)
            rw [show mq_wt 20 0 = false from by decide] at h9
            exact h9
          have r0 := HS (q + 1) (by omega)
          rw [k0] at r0
          have k1 : k q = false := by
            have h9 := hw 1 (by omega)
            rw [show mq_wt 20 1 = false from by decide] at h9
            exact h9
          have r1 := HS q (by omega)
          rw [k1] at r1
          refine my_h20 (c := v (q + 2 - 3)) (by omega) r0 r1 ?_
          intro x y hxy
          exact nm_e (hpush x y (by rw [hval, show mq_tr 20 = true from by decide]; exact hxy))
        · have e2 : mq_ar 21 = 2 := by decide
          rw [e2] at ha hq hw
          obtain ⟨p, rfl⟩ : ∃ p, h = p + 2 := ⟨h - 2, by omega⟩
          have hq : q = p := by omega
          subst hq
          have k0 : k (q + 1) = false := by
            have h9 := hw 0 (by omega)
            rw [show mq_wt 21 0 = false from by decide] at h9
            exact h9
          have r0 := HS (q + 1) (by omega)
          rw [k0] at r0
          have k1 : k q = false := by
            have h9 := hw 1 (by omega)
            rw [show mq_wt 21 1 = false from by decide] at h9
            exact h9
          have r1 := HS q (by omega)
          rw [k1] at r1
          refine my_h21 (c := v (q + 2 - 3)) (by omega) r0 r1 ?_
          intro x y hxy
          exact nm_e (hpush x y (by rw [hval, show mq_tr 21 = true from by decide]; exact hxy))
        · have e2 : mq_ar 22 = 2 := by decide
          rw [e2] at ha hq hw
          obtain ⟨p, rfl⟩ : ∃ p, h = p + 2 := ⟨h - 2, by omega⟩
          have hq : q = p := by omega
          subst hq
          have k0 : k (q + 1) = false := by
            have h9 := hw 0 (by omega)
            rw [show mq_wt 22 0 = false from by decide] at h9
            exact h9
          have r0 := HS (q + 1) (by omega)
          rw [k0] at r0
          have k1 : k q = false := by
            have h9 := hw 1 (by omega)
            rw [show mq_wt 22 1 = false from by decide] at h9
            exact h9
          have r1 := HS q (by omega)
          rw [k1] at r1
          refine my_h22 (c := v (q + 2 - 3)) (by omega) r0 r1 ?_
          intro x y hxy
          exact nm_e (hpush x y (by rw [hval, show mq_tr 22 = true from by decide]; exact hxy))
        · have e2 : mq_ar 23 = 2 := by decide
          rw [e2] at ha hq hw
          obtain ⟨p, rfl⟩ : ∃ p, h = p + 2 := ⟨h - 2, by omega⟩
          have hq : q = p := by omega
          subst hq
          have k0 : k (q + 1) = false := by
            have h9 := hw 0 (by omega)
            rw [show mq_wt 23 0 = false from by decide] at h9
            exact h9
          have r0 := HS (q + 1) (by omega)
          rw [k0] at r0
          have k1 : k q = false := by
            have h9 := hw 1 (by omega)
            rw [show mq_wt 23 1 = false from by decide] at h9
            exact h9
          have r1 := HS q (by omega)
          rw [k1] at r1
          refine my_h23 (c := v (q + 2 - 3)) (by omega) r0 r1 ?_
          intro x y hxy
          exact nm_e (hpush x y (by rw [hval, show mq_tr 23 = true from by decide]; exact hxy))
        · have e2 : mq_ar 30 = 2 := by decide
          rw [e2] at ha hq hw
          obtain ⟨p, rfl⟩ : ∃ p, h = p + 2 := ⟨h - 2, by omega⟩
          have hq : q = p := by omega
          subst hq
          have k0 : k (q + 1) = true := by
            have h9 := hw 0 (by omega)
            rw [show mq_wt 30 0 = true from by decide] at h9
            exact h9
          have r0 := HS (q + 1) (by omega)
          rw [k0] at r0
          have k1 : k q = true := by
            have h9 := hw 1 (by omega)
            rw [show mq_wt 30 1 = true from by decide] at h9
            exact h9
          have r1 := HS q (by omega)
          rw [k1] at r1
          refine my_h30 (c := v (q + 2 - 3)) (by omega) r0 (hty (q + 1) k0) r1 (hty q k1) ?_
          intro x y hxy
          exact nm_e (hpush x y (by rw [hval, show mq_tr 30 = true from by decide]; exact hxy))
        · have e2 : mq_ar 31 = 2 := by decide
          rw [e2] at ha hq hw
          obtain ⟨p, rfl⟩ : ∃ p, h = p + 2 := ⟨h - 2, by omega⟩
          have hq : q = p := by omega
          subst hq
          have k0 : k (q + 1) = true := by
            have h9 := hw 0 (by omega)
            rw [show mq_wt 31 0 = true from by decide] at h9
            exact h9
          have r0 := HS (q + 1) (by omega)
          rw [k0] at r0
          have k1 : k q = true := by
            have h9 := hw 1 (by omega)
            rw [show mq_wt 31 1 = true from by decide] at h9
            exact h9
          have r1 := HS q (by omega)
          rw [k1] at r1
          refine my_h31 (c := v (q + 2 - 3)) (by omega) r0 (hty (q + 1) k0) r1 (hty q k1) ?_
          intro x y hxy
          exact nm_e (hpush x y (by rw [hval, show mq_tr 31 = true from by decide]; exact hxy))
        · have e2 : mq_ar 32 = 1 := by decide
          rw [e2] at ha hq hw
          obtain ⟨p, rfl⟩ : ∃ p, h = p + 1 := ⟨h - 1, by omega⟩
          have hq : q = p := by omega
          subst hq
          have k0 : k q = true := by
            have h9 := hw 0 (by omega)
            rw [show mq_wt 32 0 = true from by decide] at h9
            exact h9
          have r0 := HS q (by omega)
          rw [k0] at r0
          refine my_h32 (b := v (q + 1 - 2)) (c := v (q + 1 - 3)) (by omega) r0 (hty q k0) ?_
          intro x y hxy
          exact nm_e (hpush x y (by rw [hval, show mq_tr 32 = true from by decide]; exact hxy))
        · have e2 : mq_ar 33 = 1 := by decide
          rw [e2] at ha hq hw
          obtain ⟨p, rfl⟩ : ∃ p, h = p + 1 := ⟨h - 1, by omega⟩
          have hq : q = p := by omega
          subst hq
          have k0 : k q = false := by
            have h9 := hw 0 (by omega)
            rw [show mq_wt 33 0 = false from by decide] at h9
            exact h9
          have r0 := HS q (by omega)
          rw [k0] at r0
          refine my_h33 (b := v (q + 1 - 2)) (c := v (q + 1 - 3)) (by omega) r0 ?_
          intro x y hxy
          exact nm_e (hpush x y (by rw [hval, show mq_tr 33 = true from by decide]; exact hxy))
        · have e2 : mq_ar 34 = 3 := by decide
          rw [e2] at ha hq hw
          obtain ⟨p, rfl⟩ : ∃ p, h = p + 3 := ⟨h - 3, by omega⟩
          have hq : q = p := by omega
          subst hq
          have k0 : k (q + 2) = true := by
            have h9 := hw 0 (by omega)
            rw [show mq_wt 34 0 = true from by decide] at h9
            exact h9
          have r0 := HS (q + 2) (by omega)
          rw [k0] at r0
          have k1 : k (q + 1) = false := by
            have h9 := hw 1 (by omega)
            rw [show mq_wt 34 1 = false from by decide] at h9
            exact h9
          have r1 := HS (q + 1) (by omega)
          rw [k1] at r1
          have k2 : k q = false := by
            have h9 := hw 2 (by omega)
            rw [show mq_wt 34 2 = false from by decide] at h9
            exact h9
          have r2 := HS q (by omega)
          rw [k2] at r2
          refine my_h34  (by omega) r0 (hty (q + 2) k0) r1 r2 ?_
          intro x y hxy
          exact nm_e (hpush x y (by rw [hval, show mq_tr 34 = false from by decide]; exact hxy))
theorem my_ev {post : SY → Prop} {tp gr fu pp : Int32} {ce rc tk co ln : Nat → Int32} {nm : Nat → Int64} {nu gn : Nat → Int32} {gk gs : Nat → Int64} {m : Nat → Nat} {T C : Nat → Nat → Int32} {P : Nat → Int32} {e i : Nat} {x3 : Int32} {b : Bool} (hE : mq_EX m T C tk co ln) (he : e < 4) (hV : ∀ i, i < m e → T e i ∈ mq_tk) (hW : mq_WK (T e) (m e) b)
    (hi : i < 16) (hc1 : ∀ c, c < 3 → ce (3 * i + c) = P c) (hc2 : (∃ j, j < 16 ∧ x3 = nI j ∧ ∀ c, 3 ≤ c → c < 6 → ce (48 + 3 * j + c - 3) = P c) ∨ (x3 = -1 ∧ ∀ c, 3 ≤ c → c < 6 → P c = -2147483648))
    (K : ∀ tp nm nu, mq_ry b (nu 0) (nm 0) (mq_ev (T e) (C e) P (m e)) → (b = true → mq_tt (mq_ev (T e) (C e) P (m e))) → post (tp, gr, fu, pp, ce, rc, tk, co, ln, nm, nu, gn, gk, gs)) : wpY_evaluate post (tp, gr, fu, pp, ce, rc, tk, co, ln, nm, nu, gn, gk, gs) (nI e) (nI i) x3 := by
  have h1 := hE.1 e he
  refine ⟨vp_in_nI he (by decide), ?_⟩
  rw [nI_clamp (by omega), h1.2, mi_20', nI_add, mn_ns]
  refine nm_e ⟨m e + 1, ?_⟩
  refine my_ev20 (V := T e) (W := C e) (P := P) (len := m e) he h1.1 (hE.2 e he) hV hW.1 hi hc1 hc2 ?_ (m e) 0 rfl nm nu (fun j hj => absurd hj (Nat.not_lt_zero j))
  intro tp nm nu HS
  rw [hW.2.1] at HS
  have h0 := HS 0 (by decide)
  rw [hW.2.2] at h0
  refine K tp nm nu h0 ?_
  intro hb
  exact mq_ty hV (m e) (Nat.le_refl _) 0 (by rw [hW.2.2]; exact hb)
end MQ14
