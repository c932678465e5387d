section MQ10
variable {n : Nat → Nat} {D : Nat → Nat → Int32} {m : Nat → Nat} {T C : Nat → Nat → Int32} {s : MqG}
/-! use: the copy -/
def mq_cp (f : Nat → Int32) (w L : Nat) : Nat → Int32 := fun j => if 20 * w ≤ j ∧ j < 20 * w + L then f (60 + (j - 20 * w)) else f j
theorem mq_cp_0 (f : Nat → Int32) (w : Nat) : mq_cp f w 0 = f := by
  funext j
  exact if_neg (by omega)
theorem mq_cp_s {f : Nat → Int32} {w k : Nat} (hw : w < 3) (hk : k < 20) : upd (mq_cp f w k) (20 * w + k) (mq_cp f w k (60 + k)) = mq_cp f w (k + 1) := by
  funext j
  unfold mq_cp upd
  by_cases e : j = 20 * w + k
  · rw [if_pos e, if_neg (by omega), if_pos (by omega), e]
    exact congrArg f (by omega)
  · rw [if_neg e]
    dsimp only
    by_cases e2 : 20 * w ≤ j ∧ j < 20 * w + k
    · rw [if_pos e2, if_pos (by omega)]
    · rw [if_neg e2, if_neg (by omega)]
theorem mq_ex_us {tk co ln ln' : Nat → Int32} {w L : Nat} (h : mq_EX m T C tk co ln) (hw : w < 3) (hL : m 3 ≤ L) (hL2 : L ≤ 20) (hl : ∀ e, e < 4 → ln' e = nI (mq_nS (mq_nS m w (m 3)) 3 0 e)) :
    mq_EX (mq_nS (mq_nS m w (m 3)) 3 0) (mq_fE T w (T 3)) (mq_fE C w (C 3)) (mq_cp tk w L) (mq_cp co w L) ln' := by
  have h3 := (h.1 3 (by decide)).1
  refine ⟨fun e he => ⟨?_, hl e he⟩, fun e he i hi => ?_⟩
  · unfold mq_nS
    have he1 := (h.1 e he).1
    split
    · omega
    · split
      · exact h3
      · exact he1
  · unfold mq_nS at hi
    by_cases e3 : e = 3
    · rw [if_pos e3] at hi
      omega
    · rw [if_neg e3] at hi
      unfold mq_fE
      by_cases ew : e = w
      · rw [if_pos ew] at hi
        subst ew
        rw [if_pos rfl, if_pos rfl]
        have h2 := h.2 3 (by decide) i hi
        unfold mq_cp
        rw [if_pos (by omega), if_pos (by omega)]
        have e1 : 60 + (20 * e + i - 20 * e) = 20 * 3 + i := by omega
        rw [e1]
        exact h2
      · rw [if_neg ew] at hi
        rw [if_neg ew, if_neg ew]
        have h20 := (h.1 e he).1
        have h2 := h.2 e he i hi
        unfold mq_cp
        rw [if_neg (by omega), if_neg (by omega)]
        exact h2
theorem mx_us54 {post : Int32 → SX → Prop} {gc pc tm : Int32} {ce rc tk co ln ki : Nat → Int32} {nm : Nat → Int64} {nu pr : Nat → Int32} {fa : Nat → Int64} {w L : Nat} (hw : w < 3) (hL : L ≤ 20) (K : post 1 (gc, pc, tm, ce, rc, mq_cp tk w L, mq_cp co w L, upd ln w (nI L), ki, nm, nu, pr, fa)) :
    ∀ d q, q + d = L → wX_use_54 post (nI w) (nI L) gc pc tm (d + 1) (nI q) ce rc (mq_cp tk w q) (mq_cp co w q) ln ki nm nu pr fa := by
  intro d
  induction d with
  | zero =>
    intro q e
    have e : q = L := by omega
    subst e
    refine br_t (nI_le (Nat.le_refl _) (by omega)) ⟨vp_in_nI (by omega) (by decide), ?_⟩
    rw [nI_clamp (by omega)]
    exact nm_e K
  | succ d ih =>
    intro q e
    refine br_f (nI_ge (by omega) (by omega)) ?_
    rw [mi_60, mi_20, nI_clamp (by omega), nI_clamp (by omega), Nat.mul_comm w 20, mq_cp_s hw (by omega), mq_cp_s hw (by omega)]
    exact ⟨vp_in_nI (by omega) (by decide), vp_in_nI (by omega) (by decide), nm_e ⟨vp_in_nI (by omega) (by decide), vp_in_nI (by omega) (by decide), nm_e (nm_r (nI_1 q) (ih (q + 1) (by omega)))⟩⟩
theorem my_us37 {post : Int32 → SY → Prop} {tp gr fu pp : Int32} {ce rc tk co ln : Nat → Int32} {nm : Nat → Int64} {nu gn : Nat → Int32} {gk gs : Nat → Int64} {w : Nat} (hw : w < 3) (K : post 1 (tp, gr, fu, pp, ce, rc, mq_cp tk w 20, mq_cp co w 20, upd (upd ln w (ln 3)) 3 0, nm, nu, gn, gk, gs)) :
    ∀ d q, q + d = 20 → wY_use_37 post (nI w) 1 tp gr fu pp (d + 1) (nI q) ce rc (mq_cp tk w q) (mq_cp co w q) ln nm nu gn gk gs := by
  intro d
  induction d with
  | zero =>
    intro q e
    have e : q = 20 := by omega
    subst e
    refine br_t (nI_le (a := 20) (Nat.le_refl _) (by omega)) ⟨vp_in_nI (by omega) (by decide), ?_⟩
    rw [nI_clamp (by omega)]
    exact nm_e (nm_e ⟨by decide, K⟩)
  | succ d ih =>
    intro q e
    refine br_f (nI_ge (b := 20) (by omega) (by omega)) ?_
    rw [mi_60, mi_20', nI_add, nI_clamp (by omega), nI_clamp (by omega), mq_cp_s hw (by omega), mq_cp_s hw (by omega)]
    exact ⟨vp_in_nI (by omega) (by decide), vp_in_nI (by omega) (by decide), nm_e ⟨vp_in_nI (by omega) (by decide), vp_in_nI (by omega) (by decide), nm_e (nm_r (nI_1 q) (ih (q + 1) (by omega)))⟩⟩
theorem mx_us30 {post : Int32 → SX → Prop} {gc pc tm : Int32} {ce rc tk co ln ki : Nat → Int32} {nm : Nat → Int64} {nu pr : Nat → Int32} {fa : Nat → Int64} (h1 : mq_TX n D ce rc) (h2 : mq_EX m T C tk co ln) (h3 : mq_FX s fa ∧ gc = nI s.1 ∧ pc = s.2.2.2.2 ∧ tm = mq_bi s.2.2.2.1) {w : Nat} (hw : w < 3)
    (K1 : mq_WK (T 3) (m 3) (decide (w = 0)) → ∀ u', mq_XR n D (mq_nS (mq_nS m w (m 3)) 3 0) (mq_fE T w (T 3)) (mq_fE C w (C 3)) s u' → post 1 u')
    (K0 : ¬ mq_WK (T 3) (m 3) (decide (w = 0)) → ∀ u', mq_XR n D (mq_nS m 3 0) T C s u' → post 0 u') : wX_use_30 post (nI w) (nI (m 3)) gc pc tm ce rc tk co (upd ln 3 0) ki nm nu pr fa := by
  have hl := (h2.1 3 (by decide)).1
  unfold wX_use_30 wpX_kindOfPending
  dsimp only
  rw [mn_ns]
  have q46 : ∀ (ki : Nat → Int32) (x : Int32), (x = mq_k2 (decide (w = 0)) → mq_WK (T 3) (m 3) (decide (w = 0))) → (¬ x = mq_k2 (decide (w = 0)) → ¬ mq_WK (T 3) (m 3) (decide (w = 0))) →
      wX_use_46 post (nI w) (nI (m 3)) (mq_k2 (decide (w = 0))) x gc pc tm ce rc tk co (upd ln 3 0) ki nm nu pr fa := by
    intro ki x ha hb
    by_cases c : x = mq_k2 (decide (w = 0))
    · refine br_t c ⟨m 3 + 1, ?_⟩
      have h := mx_us54 (post := post) (gc := gc) (pc := pc) (tm := tm) (ce := ce) (rc := rc) (tk := tk) (co := co) (ln := upd ln 3 0) (ki := ki) (nm := nm) (nu := nu) (pr := pr) (fa := fa) (L := m 3) hw hl (K1 (ha c) _ ⟨h1, mq_ex_us h2 hw (Nat.le_refl _) hl (by
        intro e he
        unfold upd mq_nS
        have hle := (h2.1 e he).2
        by_cases ew : e = w
        · rw [if_pos ew, if_neg (by omega), if_pos ew]
        · rw [if_neg ew]
          by_cases e3 : e = 3
          · rw [if_pos e3, if_pos e3]; rfl
          · rw [if_neg e3, if_neg e3, if_neg ew]; exact hle), h3⟩) (m 3) 0 (by omega)
      rw [mq_cp_0, mq_cp_0] at h
      exact h
    · exact br_f c (K0 (hb c) _ ⟨h1, mq_ex_ln h2 (Nat.zero_le _) (by decide), h3⟩)
  have qk : ∀ (ki : Nat → Int32) (x : Int32), (x = mq_k2 (decide (w = 0)) → mq_WK (T 3) (m 3) (decide (w = 0))) → (¬ x = mq_k2 (decide (w = 0)) → ¬ mq_WK (T 3) (m 3) (decide (w = 0))) →
      ((nI w = 0 → wX_use_46 post (nI w) (nI (m 3)) 2 x gc pc tm ce rc tk co (upd ln 3 0) ki nm nu pr fa) ∧ (¬ nI w = 0 → wX_use_46 post (nI w) (nI (m 3)) 1 x gc pc tm ce rc tk co (upd ln 3 0) ki nm nu pr fa)) := by
    intro ki x ha hb
    have h := q46 ki x ha hb
    by_cases w0 : w = 0
    · subst w0
      exact br_t rfl h
    · rw [decide_eq_false w0] at h
      exact br_f (nI_ne0 (by omega) (by omega)) h
  refine nm_e ⟨m 3 + 1, ?_⟩
  exact mx_kp7 (V := T 3) (len := m 3) (b := decide (w = 0)) hl (fun i hi => (h2.2 3 (by decide) i hi).1) (fun ki hk => qk ki _ (fun _ => hk) (fun z => absurd rfl z)) (fun ki x hx hk => qk ki x (fun z => absurd z hx) (fun _ => hk)) (m 3) 0 rfl (fun d hd => absurd hd (Nat.not_lt_zero d)) ki (fun j hj => absurd hj (Nat.not_lt_zero j))
theorem mx_use {post : Int32 → SX → Prop} {u : SX} (H : mq_XR n D m T C s u) {w : Nat} (hw : w < 3)
    (K1 : mq_WK (T 3) (m 3) (decide (w = 0)) → ∀ u', mq_XR n D (mq_nS (mq_nS m w (m 3)) 3 0) (mq_fE T w (T 3)) (mq_fE C w (C 3)) s u' → post 1 u')
    (K0 : ¬ mq_WK (T 3) (m 3) (decide (w = 0)) → ∀ u', mq_XR n D (mq_nS m 3 0) T C s u' → post 0 u') : wpX_use post u (nI w) := by
  obtain ⟨gc, pc, tm, ce, rc, tk, co, ln, ki, nm, nu, pr, fa⟩ := u
  obtain ⟨h1, h2, h3⟩ := H
  have h := mx_us30 (ki := ki) (nm := nm) (nu := nu) (pr := pr) h1 h2 h3 hw K1 K0
  refine nm_r (h2.1 3 (by decide)).2 (nm_e ?_)
  by_cases w0 : w = 0
  · subst w0
    exact br_t rfl h
  · refine br_f (nI_ne0 (by omega) (by omega)) ?_
    by_cases w1 : w = 1
    · subst w1
      exact br_t rfl h
    · refine br_f (fun e => w1 ((nI_eq (b := 1) (by omega) (by decide)).mp e)) ?_
      have w2 : w = 2 := by omega
      subst w2
      exact br_t rfl h
theorem mx_usen {post : Int32 → SX → Prop} {u : SX} (H : mq_XR n D m T C s u) {x : Int32} (hx : x < 0 ∨ nI 3 ≤ x) (K0 : ∀ u', mq_XR n D (mq_nS m 3 0) T C s u' → post 0 u') : wpX_use post u x := by
  have hn : ∀ w, w < 3 → ¬ x = nI w := by
    intro w hw e
    subst e
    rcases hx with h | h
    · exact nI_pos (by omega) h
    · exact nI_ge hw (by decide) h
  obtain ⟨gc, pc, tm, ce, rc, tk, co, ln, ki, nm, nu, pr, fa⟩ := u
  exact nm_e (nm_e (br_f (hn 0 (by decide)) (br_f (hn 1 (by decide)) (br_f (hn 2 (by decide)) (K0 _ ⟨H.1, mq_ex_ln H.2.1 (Nat.zero_le _) (by decide), H.2.2⟩)))))
theorem my_us29 {post : Int32 → SY → Prop} {tp gr fu pp : Int32} {ce rc tk co ln : Nat → Int32} {nm : Nat → Int64} {nu gn : Nat → Int32} {gk gs : Nat → Int64} (H : mq_YR n D m T C s (tp, gr, fu, pp, ce, rc, tk, co, ln, nm, nu, gn, gk, gs)) {x : Int32} (K0 : ∀ u', mq_YR n D (mq_nS m 3 0) T C s u' → post 0 u') : wY_use_29 post x tp gr fu pp ce rc tk co ln nm nu gn gk gs :=
  br_t rfl (nm_e ⟨by decide, K0 _ ⟨H.1, mq_ex_ln H.2.1 (Nat.zero_le _) (by decide), H.2.2⟩⟩)
theorem my_us19 {post : Int32 → SY → Prop} {tp gr fu pp : Int32} {ce rc tk co ln : Nat → Int32} {nm : Nat → Int64} {nu gn : Nat → Int32} {gk gs : Nat → Int64} (hE : mq_EI m T) (H : mq_YR n D m T C s (tp, gr, fu, pp, ce, rc, tk, co, ln, nm, nu, gn, gk, gs)) {w : Nat} (hw : w < 3)
    (K1 : mq_WK (T 3) (m 3) (decide (w = 0)) → ∀ u', mq_YR n D (mq_nS (mq_nS m w (m 3)) 3 0) (mq_fE T w (T 3)) (mq_fE C w (C 3)) s u' → post 1 u')
    (K0 : ¬ mq_WK (T 3) (m 3) (decide (w = 0)) → ∀ u', mq_YR n D (mq_nS m 3 0) T C s u' → post 0 u') : wY_use_19 post (nI w) (mq_b1 (decide (w = 0))) tp gr fu pp ce rc tk co ln nm nu gn gk gs := by
  obtain ⟨h1, h2, h3⟩ := H
  have hl := (h2.1 3 (by decide)).1
  have hl2 := (h2.1 3 (by decide)).2
  unfold wY_use_19 wpY_right
  dsimp only
  rw [hl2, mi_60, mn_ns]
  refine nm_e ⟨m 3 + 1, ?_⟩
  refine my_r17 (V := T 3) (len := m 3) (b := decide (w = 0)) hl (fun i hi => (h2.2 3 (by decide) i hi).1) (hE.1 3 (by decide)) ?_ ?_ (m 3) 0 rfl (fun d hd => absurd hd (Nat.not_lt_zero d)) nm (fun j hj => absurd hj (Nat.not_lt_zero j))
  · intro tp nm hk
    refine br_f (by decide) (br_f (by decide) ⟨21, ?_⟩)
    have h := my_us37 (post := post) (tp := tp) (gr := gr) (fu := fu) (pp := pp) (ce := ce) (rc := rc) (tk := tk) (co := co) (ln := ln) (nm := nm) (nu := nu) (gn := gn) (gk := gk) (gs := gs) hw (K1 hk _ ⟨h1, mq_ex_us h2 hw hl (Nat.le_refl _) (by
        intro e he
        unfold upd mq_nS
        have hle := (h2.1 e he).2
        by_cases e3 : e = 3
        · rw [if_pos e3, if_pos e3]; rfl
        · rw [if_neg e3, if_neg e3]
          by_cases ew : e = w
          · rw [if_pos ew, if_pos ew]; exact hl2
          · rw [if_neg ew, if_neg ew]; exact hle), h3⟩) 20 0 rfl
    rw [mq_cp_0, mq_cp_0] at h
    exact h
  · intro tp nm hk
    exact br_t rfl (my_us29 (n := n) (D := D) (m := m) (T := T) (C := C) (s := s) ⟨h1, h2, h3⟩ (K0 hk))
theorem my_use {post : Int32 → SY → Prop} {u : SY} (hE : mq_EI m T) (H : mq_YR n D m T C s u) {w : Nat} (hw : w < 3)
    (K1 : mq_WK (T 3) (m 3) (decide (w = 0)) → ∀ u', mq_YR n D (mq_nS (mq_nS m w (m 3)) 3 0) (mq_fE T w (T 3)) (mq_fE C w (C 3)) s u' → post 1 u')
    (K0 : ¬ mq_WK (T 3) (m 3) (decide (w = 0)) → ∀ u', mq_YR n D (mq_nS m 3 0) T C s u' → post 0 u') : wpY_use post u (nI w) := by
  obtain ⟨tp, gr, fu, pp, ce, rc, tk, co, ln, nm, nu, gn, gk, gs⟩ := u
  have h := my_us19 hE H hw K1 K0
  refine br_f (nI_pos (by omega)) (br_f (nI_nlt (a := 2) (by omega) (by decide)) ?_)
  by_cases w0 : w = 0
  · subst w0
    exact br_t rfl h
  · rw [decide_eq_false w0] at h
    exact br_f (nI_ne0 (by omega) (by omega)) h
theorem my_usen {post : Int32 → SY → Prop} {u : SY} (H : mq_YR n D m T C s u) {x : Int32} (hx : x < 0 ∨ nI 3 ≤ x) (K0 : ∀ u', mq_YR n D (mq_nS m 3 0) T C s u' → post 0 u') : wpY_use post u x := by
  obtain ⟨tp, gr, fu, pp, ce, rc, tk, co, ln, nm, nu, gn, gk, gs⟩ := u
  have h := my_us29 H (x := x) K0
  by_cases h0 : x < 0
  · exact br_t h0 h
  · obtain ⟨j, hj, rfl⟩ := nI_of h0
    have h2 : 3 ≤ j := (nI_leI (by decide) hj).mp (hx.resolve_left h0)
    exact br_f h0 (br_t (nI_lt (a := 2) (by omega) hj) h)
theorem i_vc_use {k : Nat} {u : SX} {v : SY} (I : i_Rel k u v) (hk : k + 5 ≤ 2560) (v1 : Int32) : wpX_use (fun r u' => wpY_use (fun r' v' => r' = r ∧ i_Rel (k + 5) u' v') v v1) u v1 := by
  obtain ⟨n, D, m, T, C, s, hI, hX, hY⟩ := I
  rcases pk_ix v1 (n := 3) (by decide) with h | h | ⟨w, hw, rfl⟩
  · exact mx_usen hX (Or.inl h) (fun u' hX' => my_usen hY (Or.inl h) (fun v' hY' => ⟨rfl, _, _, _, _, _, _, ⟨mq_ei_0 hI.1, hI.2⟩, hX', hY'⟩))
  · exact mx_usen hX (Or.inr h) (fun u' hX' => my_usen hY (Or.inr h) (fun v' hY' => ⟨rfl, _, _, _, _, _, _, ⟨mq_ei_0 hI.1, hI.2⟩, hX', hY'⟩))
  · exact mx_use hX hw (fun hk u' hX' => my_use hI.1 hY hw (fun _ v' hY' => ⟨rfl, _, _, _, _, _, _, ⟨mq_ei_us hI.1 hw hk, hI.2⟩, hX', hY'⟩) (fun z => absurd hk z)) (fun hk u' hX' => my_use hI.1 hY hw (fun z => absurd z hk) (fun _ v' hY' => ⟨rfl, _, _, _, _, _, _, ⟨mq_ei_0 hI.1, hI.2⟩, hX', hY'⟩))
/-! the start, group, passed -/
theorem i_vc_passed {k : Nat} {u : SX} {v : SY} (I : i_Rel k u v) (hk : k + 5 ≤ 2560) : wpX_passed (fun r => wpY_passed (fun r' => r' = r ∧ i_Rel (k + 5) u v) v) u := by
  have I2 := I
  obtain ⟨n, D, m, T, C, s, hI, hX, hY⟩ := I
  obtain ⟨gc, pc, tm, ce, rc, tk, co, ln, ki, nm, nu, pr, fa⟩ := u
  obtain ⟨tp, gr, fu, pp, ce', rc', tk', co', ln', nm', nu', gn, gk, gs⟩ := v
  refine ⟨?_, I2⟩
  rw [hX.2.2.2.2.1, hY.2.2.2.2.1]
theorem mx_gr {post : Int64 → Prop} {u : SX} (H : mq_XR n D m T C s u) (hs : mq_gi s) (hf : s.2.2.2.1 = true → s.1 = 0) {g w : Nat} (hg : g < s.1) (hw : w < 7) (h : post (if w = 0 then mq_kn (s.2.1 g) else if w = 1 then mq_kv (s.2.1 g) else s.2.2.1 g (w - 2))) : wpX_group post u (nI g) (nI w) := by
  obtain ⟨gc, pc, tm, ce, rc, tk, co, ln, ki, nm, nu, pr, fa⟩ := u
  have h12 := hs.1
  refine br_f (nI_pos (by omega)) ?_
  rw [H.2.2.2.1]
  refine br_f (nI_ge hg (by omega)) (br_f (nI_pos (by omega)) (br_t (nI_lt (b := 7) hw (by decide)) ?_))
  rw [mi_7, nI_add, nI_clamp (by omega)]
  refine ⟨vp_in_nI (by omega) (by decide), ?_⟩
  have h1 := H.2.2.1 g hg
  have hb : s.2.2.2.1 = false := by
    cases hb : s.2.2.2.1 with
    | false => rfl
    | true => have := hf hb; omega
  by_cases w0 : w = 0
  · subst w0
    rw [if_pos rfl] at h
    rw [Nat.add_zero, Nat.mul_comm, h1.1]
    exact h
  · rw [if_neg w0] at h
    by_cases w1 : w = 1
    · subst w1
      rw [if_pos rfl] at h
      rw [Nat.mul_comm, h1.2.1]
      exact h
    · rw [if_neg w1] at h
      have h2 := h1.2.2 hb (w - 2) (by omega)
      have e1 : 7 * g + 2 + (w - 2) = g * 7 + w := by omega
      rw [e1] at h2
      rw [h2]
      exact h
theorem my_gr {post : Int64 → Prop} {u : SY} (H : mq_YR n D m T C s u) (hs : mq_gi s) (hf : s.2.2.2.1 = true → s.1 = 0) {g w : Nat} (hg : g < s.1) (hw : w < 7) (h : post (if w = 0 then mq_kn (s.2.1 g) else if w = 1 then mq_kv (s.2.1 g) else s.2.2.1 g (w - 2))) : wpY_group post u (nI g) (nI w) := by
  obtain ⟨tp, gr, fu, pp, ce, rc, tk, co, ln, nm, nu, gn, gk, gs⟩ := u
  have h12 := hs.1
  refine br_f (nI_pos (by omega)) ?_
  rw [H.2.2.2.1]
  refine br_t (nI_lt hg (by omega)) ?_
  have h1 := H.2.2.1 g hg
  have hb : s.2.2.2.1 = false := by
    cases hb : s.2.2.2.1 with
    | false => rfl
    | true => have := hf hb; omega
  by_cases w0 : w = 0
  · subst w0
    rw [if_pos rfl] at h
    refine br_t rfl ⟨vp_in_nI (by omega) (by decide), ?_⟩
    rw [nI_clamp (by omega), h1.1]
    cases hk : s.2.1 g with
    | none => rw [hk] at h; exact br_f (by decide) h
    | some x => rw [hk] at h; exact br_t rfl h
  · rw [if_neg w0] at h
    refine br_f (nI_ne0 (by omega) (by omega)) ?_
    by_cases w1 : w = 1
    · subst w1
      rw [if_pos rfl] at h
      refine br_t rfl ⟨vp_in_nI (by omega) (by decide), ?_⟩
      rw [nI_clamp (by omega), h1.2.1]
      exact h
    · rw [if_neg w1] at h
      refine br_f (fun e => w1 ((nI_eq (b := 1) (by omega) (by decide)).mp e)) (br_f (nI_nlt (b := 2) (by omega) (by omega)) (br_f (nI_nlt (a := 6) (by omega) (by decide)) ?_))
      have e0 : 5 * nI g + nI w - 2 = nI (5 * g + (w - 2)) := by
        rw [mi_5, show (2 : Int32) = nI 2 from rfl, pk_sub (by omega)]
        exact congrArg nI (by omega)
      rw [e0, nI_clamp (by omega), h1.2.2 hb (w - 2) (by omega)]
      exact ⟨vp_in_nI (by omega) (by decide), h⟩
theorem mx_grn {post : Int64 → Prop} {u : SX} (H : mq_XR n D m T C s u) (hs : mq_gi s) {x y : Int32} (hx : x < 0 ∨ nI s.1 ≤ x ∨ y < 0 ∨ nI 7 ≤ y) (h : post 0) : wpX_group post u x y := by
  obtain ⟨gc, pc, tm, ce, rc, tk, co, ln, ki, nm, nu, pr, fa⟩ := u
  have h12 := hs.1
  by_cases c1 : x < 0
  · exact br_t c1 h
  · refine br_f c1 ?_
    rw [H.2.2.2.1]
    by_cases c2 : nI s.1 ≤ x
    · exact br_t c2 h
    · refine br_f c2 ?_
      by_cases c3 : y < 0
      · exact br_t c3 h
      · exact br_f c3 (br_f (Int32.not_lt.mpr (((hx.resolve_left c1).resolve_left c2).resolve_left c3)) h)
theorem my_grn {post : Int64 → Prop} {u : SY} (H : mq_YR n D m T C s u) (hs : mq_gi s) {x y : Int32} (hx : x < 0 ∨ nI s.1 ≤ x ∨ y < 0 ∨ nI 7 ≤ y) (h : post 0) : wpY_group post u x y := by
  obtain ⟨tp, gr, fu, pp, ce, rc, tk, co, ln, nm, nu, gn, gk, gs⟩ := u
  have h12 := hs.1
  by_cases c1 : x < 0
  · exact br_t c1 h
  · refine br_f c1 ?_
    rw [H.2.2.2.1]
    by_cases c2 : nI s.1 ≤ x
    · exact br_f (Int32.not_lt.mpr c2) h
    · refine br_t (Int32.not_le.mp c2) ?_
      have c3 := (hx.resolve_left c1).resolve_left c2
      have hn : ∀ w, w < 7 → ¬ y = nI w := by
        intro w hw e
        subst e
        rcases c3 with z | z
        · exact nI_pos (by omega) z
        · exact nI_ge hw (by decide) z
      refine br_f (hn 0 (by decide)) (br_f (hn 1 (by decide)) ?_)
      by_cases c4 : y < 0
      · have l2 : y < 2 := by
          rw [Int32.lt_iff_toInt_lt] at c4 ⊢
          have q0 : (0 : Int32).toInt = 0 := by decide
          have q2 : (2 : Int32).toInt = 2 := by decide
          omega
        exact br_t l2 h
      · obtain ⟨j, hj, rfl⟩ := nI_of c4
        have h7 : 7 ≤ j := (nI_leI (by decide) hj).mp (c3.resolve_left c4)
        exact br_f (nI_nlt (b := 2) (by omega) hj) (br_t (nI_lt (a := 6) (by omega) hj) h)
theorem i_vc_group {k : Nat} {u : SX} {v : SY} (I : i_Rel k u v) (hk : k + 5 ≤ 2560) (v1 : Int32) (v2 : Int32) : wpX_group (fun r => wpY_group (fun r' => r' = r ∧ i_Rel (k + 5) u v) v v1 v2) u v1 v2 := by
  have I2 := I
  obtain ⟨n, D, m, T, C, s, hI, hX, hY⟩ := I
  have h12 := hI.2.1.1
  rcases pk_ix v1 (n := s.1) (by omega) with h | h | ⟨g, hg, rfl⟩
  · exact mx_grn hX hI.2.1 (Or.inl h) (my_grn hY hI.2.1 (Or.inl h) ⟨rfl, I2⟩)
  · exact mx_grn hX hI.2.1 (Or.inr (Or.inl h)) (my_grn hY hI.2.1 (Or.inr (Or.inl h)) ⟨rfl, I2⟩)
  · rcases pk_ix v2 (n := 7) (by decide) with h | h | ⟨w, hw, rfl⟩
    · exact mx_grn hX hI.2.1 (Or.inr (Or.inr (Or.inl h))) (my_grn hY hI.2.1 (Or.inr (Or.inr (Or.inl h))) ⟨rfl, I2⟩)
    · exact mx_grn hX hI.2.1 (Or.inr (Or.inr (Or.inr h))) (my_grn hY hI.2.1 (Or.inr (Or.inr (Or.inr h))) ⟨rfl, I2⟩)
    · exact mx_gr hX hI.2.1 hI.2.2 hg hw (my_gr hY hI.2.1 hI.2.2 hg hw ⟨rfl, I2⟩)
def mq_m0 : Nat → Nat := fun e => if e = 0 then 3 else if e = 3 then 0 else 1
def mq_T0 : Nat → Nat → Int32 := fun e i => if e = 0 ∧ i = 0 then 20 else 40
theorem mq_ei0 : mq_EI mq_m0 mq_T0 := by
  unfold mq_EI mq_WK mq_ok
  refine ⟨by decide +kernel, by decide +kernel, by decide +kernel, by decide +kernel⟩
theorem mq_ex0 : mq_EX mq_m0 mq_T0 (fun _ _ => 0) (upd (upd (upd (upd (upd (fun _ => 0) 0 20) 1 40) 2 40) 20 40) 40 40) (fun _ => 0) (upd (upd (upd (fun _ => 0) 0 3) 1 1) 2 1) := by
  unfold mq_EX
  refine ⟨by decide +kernel, by decide +kernel⟩
theorem i_vc0 : wpX_init (fun u => wpY_init (fun v => i_Rel 0 u v)) := by
  refine nm_e (nm_e (nm_e (nm_e (nm_e (nm_e (nm_e (nm_e ?_)))))))
  refine nm_e (nm_e (nm_e (nm_e (nm_e (nm_e (nm_e (nm_e ?_)))))))
  refine ⟨fun _ => 0, fun _ _ => 0, mq_m0, mq_T0, fun _ _ => 0, (0, fun _ => none, fun _ _ => 0, false, 0), ⟨mq_ei0, ⟨Nat.zero_le 12, fun i j _ h => absurd h (Nat.not_lt_zero j)⟩, fun _ => rfl⟩, ?_, ?_⟩
  · exact ⟨⟨fun t ht => ⟨Nat.zero_le 16, rfl⟩, fun c hc p hp => absurd hp (Nat.not_lt_zero p)⟩, mq_ex0, fun i hi => absurd hi (Nat.not_lt_zero i), rfl, rfl, rfl⟩
  · exact ⟨⟨fun t ht => ⟨Nat.zero_le 16, rfl⟩, fun c hc p hp => absurd hp (Nat.not_lt_zero p)⟩, mq_ex0, fun i hi => absurd hi (Nat.not_lt_zero i), rfl, rfl, rfl⟩
end MQ10
