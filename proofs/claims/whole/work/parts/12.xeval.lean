section MQ12
theorem mq_opc {t : Int32} (h : t ∈ mq_tk) (h4 : ¬ t = 40) (h5 : ¬ t ≤ 5) : t = 10 ∨ t = 11 ∨ t = 12 ∨ t = 13 ∨ t = 14 ∨ t = 15 ∨ t = 16 ∨ t = 20 ∨ t = 21 ∨ t = 22 ∨ t = 23 ∨ t = 30 ∨ t = 31 ∨ t = 32 ∨ t = 33 ∨ t = 34 := by
  revert t
  decide +kernel
theorem mq_tk5 {t : Int32} (h : t ∈ mq_tk) (h5 : t ≤ 5) : ∃ c : Nat, c < 6 ∧ t = nI c := by
  obtain ⟨j, hj, rfl⟩ := nI_of (Int32.not_lt.mpr (mq_tk_pos h))
  exact ⟨j, Nat.lt_succ_of_le ((nI_leI (b := 5) hj (by decide)).mp h5), rfl⟩
theorem mx_ev12 {post : SX → Prop} {gc pc tm : Int32} {ce rc tk co ln ki : Nat → Int32} {pr : Nat → Int32} {fa : Nat → Int64} {V W P : Nat → Int32} {e len : Nat} (he : e < 4) (hl : len ≤ 20) (ht : ∀ i, i < len → tk (20 * e + i) = V i ∧ co (20 * e + i) = W i) (hV : ∀ i, i < len → V i ∈ mq_tk) (hP : ∀ c, c < 6 → pr c = P c) (hok : ∀ d, d < len → mq_ok V len d)
    (K : ∀ nm nu, mq_SX nu nm (mq_h V len len) (mq_v V W P len len) → post (gc, pc, tm, ce, rc, tk, co, ln, ki, nm, nu, pr, fa)) :
    ∀ r d, r + d = len → ∀ nm nu, mq_SX nu nm (mq_h V len d) (mq_v V W P len d) → wX_evaluate_12 post (nI e) (r + 1) (nI (20 - mq_h V len d)) (nI r + (-1)) gc pc tm ce rc tk co ln ki nm nu pr fa := by
  intro r
  induction r with
  | zero =>
    intro d hd nm nu HS
    have hd : d = len := by omega
    subst hd
    exact br_t (by rw [mn_0m]; decide) (K nm nu HS)
  | succ r ih =>
    intro d hd nm nu HS
    have er : len - 1 - d = r := by omega
    have hle := mq_h_le V len d
    have ha3 := mq_ar3 (V r)
    have hokd := hok d (by omega)
    unfold mq_ok at hokd
    rw [er] at hokd
    have ha := hokd.1
    have hs : mq_h V len (d + 1) = mq_h V len d - mq_ar (V r) + 1 := by rw [mq_h_s, er]
    have hvs : mq_v V W P len (d + 1) = fun j => if j = mq_h V len d - mq_ar (V r) then mq_val (V r) (W r) P (mq_v V W P len d (mq_h V len d - 1)) (mq_v V W P len d (mq_h V len d - 2)) (mq_v V W P len d (mq_h V len d - 3)) else mq_v V W P len d j := by
      funext j
      show (if j = mq_h V len d - mq_ar (V (len - 1 - d)) then mq_val (V (len - 1 - d)) (W (len - 1 - d)) P _ _ _ else mq_v V W P len d j) = _
      rw [er]
    have hpush : ∀ x y, mq_rx x y (mq_val (V r) (W r) P (mq_v V W P len d (mq_h V len d - 1)) (mq_v V W P len d (mq_h V len d - 2)) (mq_v V W P len d (mq_h V len d - 3))) →
        wX_evaluate_12 post (nI e) (r + 1) (nI (19 - (mq_h V len d - mq_ar (V r)))) (nI r + (-1)) gc pc tm ce rc tk co ln ki (vp_updL nm (19 - (mq_h V len d - mq_ar (V r))) y) (upd nu (19 - (mq_h V len d - mq_ar (V r))) x) pr fa := by
      intro x y hxy
      have h2 := ih (d + 1) (by omega) (vp_updL nm (19 - (mq_h V len d - mq_ar (V r))) y) (upd nu (19 - (mq_h V len d - mq_ar (V r))) x) (by rw [hs, hvs]; exact mq_sx_p HS (by omega) (by omega) hxy)
      rw [hs] at h2
      have e3 : 20 - (mq_h V len d - mq_ar (V r) + 1) = 19 - (mq_h V len d - mq_ar (V r)) := by omega
      rw [e3] at h2
      exact h2
    rw [pk_m1]
    refine br_f (nI_pos (by omega)) ?_
    have htr := ht r (by omega)
    rw [mi_20, nI_clamp (by omega), Nat.mul_comm e 20, htr.1, htr.2]
    refine ⟨vp_in_nI (by omega) (by decide), nm_e ?_⟩
    have hVr := hV r (by omega)
    generalize mq_v V W P len d = v at HS hpush
    generalize mq_h V len d = h at HS hpush hle ha
    generalize V r = t at hpush hVr ha ha3
    generalize W r = cc at hpush
    refine mx_oc ?_
    obtain ⟨p, hp⟩ : ∃ p, 20 - h = p := ⟨_, rfl⟩
    obtain ⟨o, ho⟩ : ∃ o, 19 - (h - mq_ar t) = o := ⟨_, rfl⟩
    rw [ho] at hpush
    rw [hp]
    have e4 : nI p + nI (mq_ar t) - 1 = nI o := by
      rw [nI_add, mn_s (by omega)]
      exact congrArg nI (by omega)
    refine nm_r e4 ?_
    by_cases c40 : t = 40
    · refine br_t c40 ⟨vp_in_nI (by omega) (by decide), ?_⟩
      refine mx_hcell (by omega) ?_
      intro x y hxy
      exact nm_e (hpush x y (by unfold mq_val; rw [if_pos c40]; exact hxy))
    · refine br_f c40 ?_
      by_cases c5 : t ≤ 5
      · have e0 : mq_ar t = 0 := by unfold mq_ar; rw [if_pos (Or.inl c5)]
        obtain ⟨c, hc, ec⟩ := mq_tk5 hVr c5
        refine br_t (by rw [e0]; rfl) ?_
        refine ⟨by rw [ec]; exact vp_in_nI hc (by decide), ?_⟩
        refine mx_hcell (by omega) ?_
        intro x y hxy
        refine nm_e (hpush x y ?_)
        unfold mq_val
        rw [if_neg c40, if_pos c5]
        rw [ec, nI_clamp (by omega), hP c hc] at hxy
        rw [ec, nI_clamp (by omega)]
        exact hxy
      · have hval : ∀ x y z, mq_val t cc P x y z = mq_op t x y z := by
          intro x y z
          unfold mq_val
          rw [if_neg c40, if_neg c5]
        have a1 : 1 ≤ h → mq_rx (nu p) (nm p) (v (h - 1)) := by
          intro h1
          have := HS (h - 1) (by omega)
          have e5 : 19 - (h - 1) = p := by omega
          rw [e5] at this
          exact this
        have a2 : 2 ≤ h → mq_rx (nu (p + 1)) (nm (p + 1)) (v (h - 2)) := by
          intro h1
          have := HS (h - 2) (by omega)
          have e5 : 19 - (h - 2) = p + 1 := by omega
          rw [e5] at this
          exact this
        have a3 : 3 ≤ h → mq_rx (nu (p + 2)) (nm (p + 2)) (v (h - 3)) := by
          intro h1
          have := HS (h - 3) (by omega)
          have e5 : 19 - (h - 3) = p + 2 := by omega
          rw [e5] at this
          exact this
        rcases mq_opc hVr c40 c5 with rfl | rfl | rfl | rfl | rfl | rfl | rfl | rfl | rfl | rfl | rfl | rfl | rfl | rfl | rfl | rfl
        · have e2 : mq_ar 10 = 2 := by decide
          rw [e2] at ha ho
          have ho2 : o = p + 1 := by omega
          subst ho2
          refine br_f (by rw [e2]; decide) ?_
          refine br_f (by decide) ?_
          refine br_f (by decide) ?_
          refine br_f (by decide) ?_
          refine br_f (by decide) ?_
          refine br_f (by decide) ?_
          refine mx_h10 (c := v (h - 3)) (by omega) (a1 (by omega)) (a2 (by omega)) ?_
          intro x y hxy
          exact nm_e (hpush x y (by rw [hval]; exact hxy))
        · have e2 : mq_ar 11 = 2 := by decide
          rw [e2] at ha ho
          have ho2 : o = p + 1 := by omega
          subst ho2
          refine br_f (by rw [e2]; decide) ?_
          refine br_f (by decide) ?_
          refine br_f (by decide) ?_
          refine br_f (by decide) ?_
          refine br_f (by decide) ?_
          refine br_f (by decide) ?_
          refine mx_h11 (c := v (h - 3)) (by omega) (a1 (by omega)) (a2 (by omega)) ?_
          intro x y hxy
          exact nm_e (hpush x y (by rw [hval]; exact hxy))
        · have e2 : mq_ar 12 = 2 := by decide
          rw [e2] at ha ho
          have ho2 : o = p + 1 := by omega
          subst ho2
          refine br_f (by rw [e2]; decide) ?_
          refine br_f (by decide) ?_
          refine br_f (by decide) ?_
          refine br_f (by decide) ?_
          refine br_f (by decide) ?_
          refine br_f (by decide) ?_
          refine mx_h12 (c := v (h - 3)) (by omega) (a1 (by omega)) (a2 (by omega)) ?_
          intro x y hxy
          exact nm_e (hpush x y (by rw [hval]; exact hxy))
        · have e2 : mq_ar 13 = 2 := by decide
          rw [e2] at ha ho
          have ho2 : o = p + 1 := by omega
          subst ho2
          refine br_f (by rw [e2]; decide) ?_
          refine br_f (by decide) ?_
          refine br_f (by decide) ?_
          refine br_f (by decide) ?_
          refine br_f (by decide) ?_
          refine br_f (by decide) ?_
          refine mx_h13 (c := v (h - 3)) (by omega) (a1 (by omega)) (a2 (by omega)) ?_
          intro x y hxy
          exact nm_e (hpush x y (by rw [hval]; exact hxy))
        · have e2 : mq_ar 14 = 2 := by decide
          rw [e2] at ha ho
          have ho2 : o = p + 1 := by omega
          subst ho2
          refine br_f (by rw [e2]; decide) ?_
          refine br_f (by decide) ?_
          refine br_f (by decide) ?_
          refine br_f (by decide) ?_
          refine br_f (by decide) ?_
          refine br_f (by decide) ?_
          refine mx_h14 (c := v (h - 3)) (by omega) (a1 (by omega)) (a2 (by omega)) ?_
          intro x y hxy
          exact nm_e (hpush x y (by rw [hval]; exact hxy))
        · have e2 : mq_ar 15 = 1 := by decide
          rw [e2] at ha ho
          have ho2 : o = p := by omega
          subst ho2
          refine br_f (by rw [e2]; decide) ?_
          refine br_f (by decide) ?_
          refine br_f (by decide) ?_
          refine br_f (by decide) ?_
          refine br_f (by decide) ?_
          refine br_f (by decide) ?_
          refine mx_h15 (b := v (h - 2)) (c := v (h - 3)) (by omega) (a1 (by omega)) ?_
          intro x y hxy
          exact nm_e (hpush x y (by rw [hval]; exact hxy))
        · have e2 : mq_ar 16 = 2 := by decide
          rw [e2] at ha ho
          have ho2 : o = p + 1 := by omega
          subst ho2
          refine br_f (by rw [e2]; decide) ?_
          refine br_f (by decide) ?_
          refine br_f (by decide) ?_
          refine br_t rfl ?_
          unfold wX_evaluate_140
          refine mx_h16 (c := v (h - 3)) (by omega) (a1 (by omega)) (a2 (by omega)) ?_
          intro x y hxy
          exact nm_e (hpush x y (by rw [hval]; exact hxy))
        · have e2 : mq_ar 20 = 2 := by decide
          rw [e2] at ha ho
          have ho2 : o = p + 1 := by omega
          subst ho2
          refine br_f (by rw [e2]; decide) ?_
          refine br_f (by decide) ?_
          refine br_f (by decide) ?_
          refine br_f (by decide) ?_
          refine br_f (by decide) ?_
          refine br_f (by decide) ?_
          refine mx_h20 (c := v (h - 3)) (by omega) (a1 (by omega)) (a2 (by omega)) ?_
          intro x y hxy
          exact nm_e (hpush x y (by rw [hval]; exact hxy))
        · have e2 : mq_ar 21 = 2 := by decide
          rw [e2] at ha ho
          have ho2 : o = p + 1 := by omega
          subst ho2
          refine br_f (by rw [e2]; decide) ?_
          refine br_f (by decide) ?_
          refine br_f (by decide) ?_
          refine br_f (by decide) ?_
          refine br_f (by decide) ?_
          refine br_f (by decide) ?_
          refine mx_h21 (c := v (h - 3)) (by omega) (a1 (by omega)) (a2 (by omega)) ?_
          intro x y hxy
          exact nm_e (hpush x y (by rw [hval]; exact hxy))
        · have e2 : mq_ar 22 = 2 := by decide
          rw [e2] at ha ho
          have ho2 : o = p + 1 := by omega
          subst ho2
          refine br_f (by rw [e2]; decide) ?_
          refine br_f (by decide) ?_
          refine br_f (by decide) ?_
          refine br_f (by decide) ?_
          refine br_f (by decide) ?_
          refine br_f (by decide) ?_
          refine mx_h22 (c := v (h - 3)) (by omega) (a1 (by omega)) (a2 (by omega)) ?_
          intro x y hxy
          exact nm_e (hpush x y (by rw [hval]; exact hxy))
        · have e2 : mq_ar 23 = 2 := by decide
          rw [e2] at ha ho
          have ho2 : o = p + 1 := by omega
          subst ho2
          refine br_f (by rw [e2]; decide) ?_
          refine br_f (by decide) ?_
          refine br_f (by decide) ?_
          refine br_f (by decide) ?_
          refine br_f (by decide) ?_
          refine br_f (by decide) ?_
          refine mx_h23 (c := v (h - 3)) (by omega) (a1 (by omega)) (a2 (by omega)) ?_
          intro x y hxy
          exact nm_e (hpush x y (by rw [hval]; exact hxy))
        · have e2 : mq_ar 30 = 2 := by decide
          rw [e2] at ha ho
          have ho2 : o = p + 1 := by omega
          subst ho2
          refine br_f (by rw [e2]; decide) ?_
          refine br_t rfl ?_
          unfold wX_evaluate_107
          refine mx_h30 (c := v (h - 3)) (by omega) (a1 (by omega)) (a2 (by omega)) ?_
          intro x y hxy
          exact nm_e (hpush x y (by rw [hval]; exact hxy))
        · have e2 : mq_ar 31 = 2 := by decide
          rw [e2] at ha ho
          have ho2 : o = p + 1 := by omega
          subst ho2
          refine br_f (by rw [e2]; decide) ?_
          refine br_f (by decide) ?_
          refine br_t rfl ?_
          unfold wX_evaluate_107
          refine mx_h31 (c := v (h - 3)) (by omega) (a1 (by omega)) (a2 (by omega)) ?_
          intro x y hxy
          exact nm_e (hpush x y (by rw [hval]; exact hxy))
        · have e2 : mq_ar 32 = 1 := by decide
          rw [e2] at ha ho
          have ho2 : o = p := by omega
          subst ho2
          refine br_f (by rw [e2]; decide) ?_
          refine br_f (by decide) ?_
          refine br_f (by decide) ?_
          refine br_f (by decide) ?_
          refine br_f (by decide) ?_
          refine br_f (by decide) ?_
          refine mx_h32 (b := v (h - 2)) (c := v (h - 3)) (by omega) (a1 (by omega)) ?_
          intro x y hxy
          exact nm_e (hpush x y (by rw [hval]; exact hxy))
        · have e2 : mq_ar 33 = 1 := by decide
          rw [e2] at ha ho
          have ho2 : o = p := by omega
          subst ho2
          refine br_f (by rw [e2]; decide) ?_
          refine br_f (by decide) ?_
          refine br_f (by decide) ?_
          refine br_f (by decide) ?_
          refine br_t rfl ?_
          unfold wX_evaluate_140
          refine mx_h33 (b := v (h - 2)) (c := v (h - 3)) (by omega) (a1 (by omega)) ?_
          intro x y hxy
          exact nm_e (hpush x y (by rw [hval]; exact hxy))
        · have e2 : mq_ar 34 = 3 := by decide
          rw [e2] at ha ho
          have ho2 : o = p + 2 := by omega
          subst ho2
          refine br_f (by rw [e2]; decide) ?_
          refine br_f (by decide) ?_
          refine br_f (by decide) ?_
          refine br_f (by decide) ?_
          refine br_f (by decide) ?_
          refine br_t rfl ?_
          unfold wX_evaluate_140
          refine mx_h34 (by omega) (a1 (by omega)) (a2 (by omega)) (a3 (by omega)) ?_
          intro x y hxy
          exact nm_e (hpush x y (by rw [hval]; exact hxy))
theorem mx_ev {post : SX → Prop} {gc pc tm : Int32} {ce rc tk co ln ki : Nat → Int32} {nm : Nat → Int64} {nu pr : Nat → Int32} {fa : Nat → Int64} {m : Nat → Nat} {T C : Nat → Nat → Int32} {P : Nat → Int32} {e : Nat} {b : Bool} (hE : mq_EX m T C tk co ln) (he : e < 4) (hV : ∀ i, i < m e → T e i ∈ mq_tk) (hP : ∀ c, c < 6 → pr c = P c) (hW : mq_WK (T e) (m e) b)
    (K : ∀ nm nu, mq_rx (nu 19) (nm 19) (mq_ev (T e) (C e) P (m e)) → post (gc, pc, tm, ce, rc, tk, co, ln, ki, nm, nu, pr, fa)) : wpX_evaluate post (gc, pc, tm, ce, rc, tk, co, ln, ki, nm, nu, pr, fa) (nI e) := by
  have h1 := hE.1 e he
  refine ⟨vp_in_nI he (by decide), ?_⟩
  rw [nI_clamp (by omega), h1.2, mn_ns]
  refine nm_e ⟨m e + 1, ?_⟩
  refine mx_ev12 (V := T e) (W := C e) (P := P) (len := m e) he h1.1 (hE.2 e he) hV hP hW.1 ?_ (m e) 0 rfl nm nu (fun j hj => absurd hj (Nat.not_lt_zero j))
  intro nm nu HS
  rw [hW.2.1] at HS
  exact K nm nu (HS 0 (by decide))
end MQ12
