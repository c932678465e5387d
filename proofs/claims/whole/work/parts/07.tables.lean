section MQ7
variable {n : Nat → Nat} {D : Nat → Nat → Int32} {m : Nat → Nat} {T C : Nat → Nat → Int32} {s : MqG}
/-! insert -/
theorem mx_ins1 {post : Int32 → SX → Prop} {u : SX} {x a b c : Int32} (hx : x < 0 ∨ nI 2 ≤ x) (h : post (-1) u) : wpX_insert post u x a b c := by
  obtain ⟨gc, pc, tm, ce, rc, tk, co, ln, ki, nm, nu, pr, fa⟩ := u
  unfold wpX_insert
  dsimp only
  refine mx_htn hx ?_
  exact br_t rfl h
theorem my_ins1 {post : Int32 → SY → Prop} {u : SY} {x a b c : Int32} (hx : x < 0 ∨ nI 2 ≤ x) (h : post (-1) u) : wpY_insert post u x a b c := by
  obtain ⟨tp, gr, fu, pp, ce, rc, tk, co, ln, nm, nu, gn, gk, gs⟩ := u
  by_cases h0 : x < 0
  · exact br_t h0 h
  · obtain ⟨j, hj, rfl⟩ := nI_of h0
    have h2 : 2 ≤ j := (nI_leI (by decide) hj).mp (hx.resolve_left h0)
    exact br_f h0 (br_f (nI_ge (a := 1) h2 hj) h)
theorem mx_ins2 {post : Int32 → SX → Prop} {u : SX} (H : mq_XR n D m T C s u) {t : Nat} {a b c : Int32} (ht : t < 2) (hn : n t = 16) (h : post (-2) u) : wpX_insert post u (nI t) a b c := by
  obtain ⟨gc, pc, tm, ce, rc, tk, co, ln, ki, nm, nu, pr, fa⟩ := u
  have h1 := H.1.1 t ht
  unfold wpX_insert
  dsimp only
  refine mx_ht ht ?_
  refine br_f (by decide) ⟨vp_in_nI ht (by decide), nm_r (e' := nI 16) (by rw [nI_clamp (by omega), ← hn]; exact h1.2) (br_f (by decide) h)⟩
theorem my_ins2 {post : Int32 → SY → Prop} {u : SY} (H : mq_YR n D m T C s u) {t : Nat} {a b c : Int32} (ht : t < 2) (hn : n t = 16) (h : post (-2) u) : wpY_insert post u (nI t) a b c := by
  obtain ⟨tp, gr, fu, pp, ce, rc, tk, co, ln, nm, nu, gn, gk, gs⟩ := u
  have h1 := H.1.1 t ht
  refine br_f (nI_pos (by omega)) (br_t (nI_le (b := 1) (by omega) (by decide)) ⟨vp_in_nI ht (by decide), ?_⟩)
  refine br_t ?_ h
  rw [nI_clamp (by omega), h1.2, hn]
  rfl
theorem mx_ins {post : Int32 → SX → Prop} {u : SX} (H : mq_XR n D m T C s u) {t : Nat} {a b c : Int32} (ht : t < 2) (hn : n t < 16)
    (K : ∀ u', mq_XR (mq_nS n t (n t + 1)) (mq_Din n D t a b c) m T C s u' → post (nI (n t + 1)) u') : wpX_insert post u (nI t) a b c := by
  obtain ⟨gc, pc, tm, ce, rc, tk, co, ln, ki, nm, nu, pr, fa⟩ := u
  have h1 := H.1.1 t ht
  unfold wpX_insert
  dsimp only
  refine mx_ht ht ?_
  refine br_f (by decide) ⟨vp_in_nI ht (by decide), nm_r (e' := nI (n t)) (by rw [nI_clamp (by omega)]; exact h1.2) (br_t (nI_lt (b := 16) hn (by decide)) ?_)⟩
  refine nm_r (e' := nI (3 * t)) (by rw [show (3 : Int32) = nI 3 from rfl, pk_mul, Nat.mul_comm]) ?_
  rw [nI_1, mi_a (3 * t) 2, mi_16, mi_16, mi_16, nI_clamp (by omega), nI_clamp (by omega), nI_clamp (by omega), nI_clamp (by omega), nI_1]
  exact ⟨vp_in_nI (by omega) (by decide), nm_e ⟨vp_in_nI (by omega) (by decide), nm_e ⟨vp_in_nI (by omega) (by decide), nm_e ⟨vp_in_nI ht (by decide), nm_e (K _ ⟨mq_tx_in H.1 ht hn, H.2⟩)⟩⟩⟩⟩
theorem my_ins {post : Int32 → SY → Prop} {u : SY} (H : mq_YR n D m T C s u) {t : Nat} {a b c : Int32} (ht : t < 2) (hn : n t < 16)
    (K : ∀ u', mq_YR (mq_nS n t (n t + 1)) (mq_Din n D t a b c) m T C s u' → post (nI (n t + 1)) u') : wpY_insert post u (nI t) a b c := by
  obtain ⟨tp, gr, fu, pp, ce, rc, tk, co, ln, nm, nu, gn, gk, gs⟩ := u
  have h1 := H.1.1 t ht
  refine br_f (nI_pos (by omega)) (br_t (nI_le (b := 1) (by omega) (by decide)) ⟨vp_in_nI ht (by decide), ?_⟩)
  rw [nI_clamp (by omega), h1.2]
  refine br_f (fun e => absurd ((nI_eq (b := 16) (by omega) (by decide)).mp e) (by omega)) ⟨vp_in_nI ht (by decide), nm_r (mi_48 t (n t)) ?_⟩
  rw [nI_1, mi_a (48 * t + 3 * n t) 2, nI_clamp (by omega), nI_clamp (by omega), nI_clamp (by omega), nI_1]
  refine ⟨vp_in_nI (by omega) (by decide), nm_e ⟨vp_in_nI (by omega) (by decide), nm_e ⟨vp_in_nI (by omega) (by decide), nm_e ⟨vp_in_nI ht (by decide), vp_in_nI ht (by decide), nm_e ⟨vp_in_nI ht (by decide), ?_⟩⟩⟩⟩⟩
  rw [pk_us]
  exact K _ ⟨mq_ty_in H.1 ht hn, H.2⟩
theorem i_vc_insert {k : Nat} {u : SX} {v : SY} (I : i_Rel k u v) (hk : k + 5 ≤ 2560) (v1 : Int32) (v2 : Int32) (v3 : Int32) (v4 : Int32) : wpX_insert (fun r u' => wpY_insert (fun r' v' => r' = r ∧ i_Rel (k + 5) u' v') v v1 v2 v3 v4) u v1 v2 v3 v4 := by
  rcases pk_ix v1 (n := 2) (by decide) with h | h | ⟨t, ht, rfl⟩
  · exact mx_ins1 (Or.inl h) (my_ins1 (Or.inl h) ⟨rfl, I⟩)
  · exact mx_ins1 (Or.inr h) (my_ins1 (Or.inr h) ⟨rfl, I⟩)
  · have I2 := I
    obtain ⟨n, D, m, T, C, s, hI, hX, hY⟩ := I
    have hn : n t ≤ 16 := by obtain ⟨gc, pc, tm, ce, rc, tk, co, ln, ki, nm, nu, pr, fa⟩ := u; exact (hX.1.1 t ht).1
    by_cases h16 : n t = 16
    · exact mx_ins2 hX ht h16 (my_ins2 hY ht h16 ⟨rfl, I2⟩)
    · exact mx_ins hX ht (by omega) (fun u' hX' => my_ins hY ht (by omega) (fun v' hY' => ⟨rfl, _, _, _, _, _, _, hI, hX', hY'⟩))
/-! set, cell, rows -/
theorem mq_colc {n : Nat → Nat} (x y : Int32) (hn : ∀ t, t < 2 → n t ≤ 16) : (x < 0 ∨ nI 6 ≤ x ∨ ∃ c, c < 6 ∧ x = nI c ∧ (y < 0 ∨ nI (n (c / 3)) ≤ y)) ∨ ∃ c p, c < 6 ∧ p < n (c / 3) ∧ x = nI c ∧ y = nI p := by
  rcases pk_ix x (n := 6) (by decide) with h | h | ⟨c, hc, rfl⟩
  · exact Or.inl (Or.inl h)
  · exact Or.inl (Or.inr (Or.inl h))
  · have h16 := hn (c / 3) (by omega)
    rcases pk_ix y (n := n (c / 3)) (by omega) with h | h | ⟨p, hp, rfl⟩
    · exact Or.inl (Or.inr (Or.inr ⟨c, hc, rfl, Or.inl h⟩))
    · exact Or.inl (Or.inr (Or.inr ⟨c, hc, rfl, Or.inr h⟩))
    · exact Or.inr ⟨c, p, hc, hp, rfl, rfl⟩
theorem mx_n16 {u : SX} (H : mq_XR n D m T C s u) : ∀ t, t < 2 → n t ≤ 16 := by
  obtain ⟨gc, pc, tm, ce, rc, tk, co, ln, ki, nm, nu, pr, fa⟩ := u
  exact fun t ht => (H.1.1 t ht).1
theorem mx_set {post : Int32 → SX → Prop} {u : SX} (H : mq_XR n D m T C s u) {c p : Nat} {a : Int32} (hc : c < 6) (hp : p < n (c / 3))
    (K : ∀ u', mq_XR n (mq_Dse D c p a) m T C s u' → post (nI (n (c / 3))) u') : wpX_set post u (nI c) (nI p) a := by
  obtain ⟨gc, pc, tm, ce, rc, tk, co, ln, ki, nm, nu, pr, fa⟩ := u
  have h1 := H.1.1 (c / 3) (by omega)
  unfold wpX_set
  dsimp only
  refine mx_hc H.1 hc hp ?_
  refine br_f (by decide) ?_
  rw [mi_16, mi_d3 hc, nI_clamp (by omega), nI_clamp (by omega), h1.2]
  exact ⟨vp_in_nI (by omega) (by decide), nm_e ⟨by decide, vp_in_nI (by omega) (by decide), K _ ⟨mq_tx_se H.1 hc hp, H.2⟩⟩⟩
theorem my_set {post : Int32 → SY → Prop} {u : SY} (H : mq_YR n D m T C s u) {c p : Nat} {a : Int32} (hc : c < 6) (hp : p < n (c / 3))
    (K : ∀ u', mq_YR n (mq_Dse D c p a) m T C s u' → post (nI (n (c / 3))) u') : wpY_set post u (nI c) (nI p) a := by
  obtain ⟨tp, gr, fu, pp, ce, rc, tk, co, ln, nm, nu, gn, gk, gs⟩ := u
  have h1 := H.1.1 (c / 3) (by omega)
  unfold wpY_set
  dsimp only
  refine my_fi H.1 hc hp ?_
  refine br_t (nI_pos' (by omega)) ?_
  rw [mi_d3 hc, nI_clamp (by omega), nI_clamp (by omega), h1.2]
  exact ⟨vp_in_nI (by omega) (by decide), nm_e ⟨by decide, vp_in_nI (by omega) (by decide), K _ ⟨mq_ty_se H.1 hc hp, H.2⟩⟩⟩
theorem mx_setn {post : Int32 → SX → Prop} {u : SX} (H : mq_XR n D m T C s u) {x y a : Int32} (hc : x < 0 ∨ nI 6 ≤ x ∨ ∃ c, c < 6 ∧ x = nI c ∧ (y < 0 ∨ nI (n (c / 3)) ≤ y)) (h : post (-1) u) : wpX_set post u x y a := by
  obtain ⟨gc, pc, tm, ce, rc, tk, co, ln, ki, nm, nu, pr, fa⟩ := u
  unfold wpX_set
  dsimp only
  refine mx_hcn H.1 hc ?_
  exact br_t rfl h
theorem my_setn {post : Int32 → SY → Prop} {u : SY} (H : mq_YR n D m T C s u) {x y a : Int32} (hc : x < 0 ∨ nI 6 ≤ x ∨ ∃ c, c < 6 ∧ x = nI c ∧ (y < 0 ∨ nI (n (c / 3)) ≤ y)) (h : post (-1) u) : wpY_set post u x y a := by
  obtain ⟨tp, gr, fu, pp, ce, rc, tk, co, ln, nm, nu, gn, gk, gs⟩ := u
  unfold wpY_set
  dsimp only
  refine my_fin H.1 hc ?_
  exact br_f (by decide) h
theorem mx_cell {post : Int32 → Prop} {u : SX} (H : mq_XR n D m T C s u) {c p : Nat} (hc : c < 6) (hp : p < n (c / 3)) (h : post (D c p)) : wpX_cell post u (nI c) (nI p) := by
  obtain ⟨gc, pc, tm, ce, rc, tk, co, ln, ki, nm, nu, pr, fa⟩ := u
  have h1 := H.1.1 (c / 3) (by omega)
  unfold wpX_cell
  dsimp only
  refine mx_hc H.1 hc hp ?_
  refine br_f (by decide) ?_
  rw [mi_16, nI_clamp (by omega), Nat.mul_comm, H.1.2 c hc p hp]
  exact ⟨vp_in_nI (by omega) (by decide), h⟩
theorem my_cell {post : Int32 → Prop} {u : SY} (H : mq_YR n D m T C s u) {c p : Nat} (hc : c < 6) (hp : p < n (c / 3)) (h : post (D c p)) : wpY_cell post u (nI c) (nI p) := by
  obtain ⟨tp, gr, fu, pp, ce, rc, tk, co, ln, nm, nu, gn, gk, gs⟩ := u
  have h1 := H.1.1 (c / 3) (by omega)
  unfold wpY_cell
  dsimp only
  refine my_fi H.1 hc hp ?_
  refine br_t (nI_pos' (by omega)) ?_
  rw [nI_clamp (by omega), H.1.2 c hc p hp]
  exact ⟨vp_in_nI (by omega) (by decide), h⟩
theorem mx_celln {post : Int32 → Prop} {u : SX} (H : mq_XR n D m T C s u) {x y : Int32} (hc : x < 0 ∨ nI 6 ≤ x ∨ ∃ c, c < 6 ∧ x = nI c ∧ (y < 0 ∨ nI (n (c / 3)) ≤ y)) (h : post 0) : wpX_cell post u x y := by
  obtain ⟨gc, pc, tm, ce, rc, tk, co, ln, ki, nm, nu, pr, fa⟩ := u
  unfold wpX_cell
  dsimp only
  refine mx_hcn H.1 hc ?_
  exact br_t rfl h
theorem my_celln {post : Int32 → Prop} {u : SY} (H : mq_YR n D m T C s u) {x y : Int32} (hc : x < 0 ∨ nI 6 ≤ x ∨ ∃ c, c < 6 ∧ x = nI c ∧ (y < 0 ∨ nI (n (c / 3)) ≤ y)) (h : post 0) : wpY_cell post u x y := by
  obtain ⟨tp, gr, fu, pp, ce, rc, tk, co, ln, nm, nu, gn, gk, gs⟩ := u
  unfold wpY_cell
  dsimp only
  refine my_fin H.1 hc ?_
  exact br_f (by decide) h
theorem i_vc_set {k : Nat} {u : SX} {v : SY} (I : i_Rel k u v) (hk : k + 5 ≤ 2560) (v1 : Int32) (v2 : Int32) (v3 : Int32) : wpX_set (fun r u' => wpY_set (fun r' v' => r' = r ∧ i_Rel (k + 5) u' v') v v1 v2 v3) u v1 v2 v3 := by
  have I2 := I
  obtain ⟨n, D, m, T, C, s, hI, hX, hY⟩ := I
  rcases mq_colc v1 v2 (mx_n16 hX) with h | ⟨c, p, hc, hp, rfl, rfl⟩
  · exact mx_setn hX h (my_setn hY h ⟨rfl, I2⟩)
  · exact mx_set hX hc hp (fun u' hX' => my_set hY hc hp (fun v' hY' => ⟨rfl, _, _, _, _, _, _, hI, hX', hY'⟩))
theorem i_vc_cell {k : Nat} {u : SX} {v : SY} (I : i_Rel k u v) (hk : k + 5 ≤ 2560) (v1 : Int32) (v2 : Int32) : wpX_cell (fun r => wpY_cell (fun r' => r' = r ∧ i_Rel (k + 5) u v) v v1 v2) u v1 v2 := by
  have I2 := I
  obtain ⟨n, D, m, T, C, s, hI, hX, hY⟩ := I
  rcases mq_colc v1 v2 (mx_n16 hX) with h | ⟨c, p, hc, hp, rfl, rfl⟩
  · exact mx_celln hX h (my_celln hY h ⟨rfl, I2⟩)
  · exact mx_cell hX hc hp (my_cell hY hc hp ⟨rfl, I2⟩)
theorem mx_rows {post : Int32 → Prop} {u : SX} (H : mq_XR n D m T C s u) {t : Nat} (ht : t < 2) (h : post (nI (n t))) : wpX_rows post u (nI t) := by
  obtain ⟨gc, pc, tm, ce, rc, tk, co, ln, ki, nm, nu, pr, fa⟩ := u
  have h1 := H.1.1 t ht
  unfold wpX_rows
  dsimp only
  refine mx_ht ht ?_
  refine br_f (by decide) ⟨vp_in_nI ht (by decide), ?_⟩
  rw [nI_clamp (by omega), h1.2]
  exact h
theorem my_rows {post : Int32 → Prop} {u : SY} (H : mq_YR n D m T C s u) {t : Nat} (ht : t < 2) (h : post (nI (n t))) : wpY_rows post u (nI t) := by
  obtain ⟨tp, gr, fu, pp, ce, rc, tk, co, ln, nm, nu, gn, gk, gs⟩ := u
  have h1 := H.1.1 t ht
  refine br_f (nI_pos (by omega)) (br_t (nI_le (b := 1) (by omega) (by decide)) ⟨vp_in_nI ht (by decide), ?_⟩)
  rw [nI_clamp (by omega), h1.2]
  exact h
theorem mx_rowsn {post : Int32 → Prop} {u : SX} {x : Int32} (hx : x < 0 ∨ nI 2 ≤ x) (h : post (-1)) : wpX_rows post u x := by
  obtain ⟨gc, pc, tm, ce, rc, tk, co, ln, ki, nm, nu, pr, fa⟩ := u
  unfold wpX_rows
  dsimp only
  refine mx_htn hx ?_
  exact br_t rfl h
theorem my_rowsn {post : Int32 → Prop} {u : SY} {x : Int32} (hx : x < 0 ∨ nI 2 ≤ x) (h : post (-1)) : wpY_rows post u x := by
  obtain ⟨tp, gr, fu, pp, ce, rc, tk, co, ln, nm, nu, gn, gk, gs⟩ := u
  by_cases h0 : x < 0
  · exact br_t h0 h
  · obtain ⟨j, hj, rfl⟩ := nI_of h0
    have h2 : 2 ≤ j := (nI_leI (by decide) hj).mp (hx.resolve_left h0)
    exact br_f h0 (br_f (nI_ge (a := 1) h2 hj) h)
theorem i_vc_rows {k : Nat} {u : SX} {v : SY} (I : i_Rel k u v) (hk : k + 5 ≤ 2560) (v1 : Int32) : wpX_rows (fun r => wpY_rows (fun r' => r' = r ∧ i_Rel (k + 5) u v) v v1) u v1 := by
  rcases pk_ix v1 (n := 2) (by decide) with h | h | ⟨t, ht, rfl⟩
  · exact mx_rowsn (Or.inl h) (my_rowsn (Or.inl h) ⟨rfl, I⟩)
  · exact mx_rowsn (Or.inr h) (my_rowsn (Or.inr h) ⟨rfl, I⟩)
  · have I2 := I
    obtain ⟨n, D, m, T, C, s, hI, hX, hY⟩ := I
    exact mx_rows hX ht (my_rows hY ht ⟨rfl, I2⟩)
/-! remove -/
theorem mx_re48 {post : Int32 → SX → Prop} {J : Int32 → (Nat → Int32) → (Nat → Int32) → (Nat → Int32) → (Nat → Int32) → (Nat → Int32) → (Nat → Int32) → (Nat → Int64) → (Nat → Int32) → (Nat → Int32) → (Nat → Int64) → Prop} {x1 x2 x4 : Int32} {gc pc tm : Int32} {ce rc tk co ln ki : Nat → Int32} {nm : Nat → Int64} {nu pr : Nat → Int32} {fa : Nat → Int64} {c p L : Nat} (hc : c < 6) (hL : L < 16)
    (K : J (nI (c + 1)) (mq_xr ce (c * 16) p L) rc tk co ln ki nm nu pr fa) :
    ∀ d q, p ≤ q → q + d = L → wX_remove_48 post J x1 x2 (nI L) x4 (nI c) gc pc tm (d + 1) (nI q) (mq_xr ce (c * 16) p q) rc tk co ln ki nm nu pr fa := by
  intro d
  induction d with
  | zero =>
    intro q hq e
    have e : q = L := by omega
    subst e
    exact br_t (nI_le (Nat.le_refl _) (by omega)) (nm_r (nI_1 c) K)
  | succ d ih =>
    intro q hq e
    refine br_f (nI_ge (by omega) (by omega)) ?_
    rw [mi_16, nI_1, nI_1, nI_clamp (by omega), nI_clamp (by omega), mq_xr_s hq]
    exact ⟨vp_in_nI (by omega) (by decide), vp_in_nI (by omega) (by decide), nm_e (nm_e (ih (q + 1) (by omega) (by omega)))⟩
theorem mx_re36 {post : Int32 → SX → Prop} {gc pc tm : Int32} {ce rc tk co ln ki : Nat → Int32} {nm : Nat → Int64} {nu pr : Nat → Int32} {fa : Nat → Int64} {t p L : Nat} (ht : t < 2) (hL : L < 16) (hp : p ≤ L)
    (K : post (nI L) (gc, pc, tm, mq_xo ce (3 * t) p L 3, upd rc t (nI L), tk, co, ln, ki, nm, nu, pr, fa)) :
    ∀ d k, k + d = 3 → wX_remove_36 post (nI t) (nI p) (nI L) (nI (3 * t)) gc pc tm (d + 1) (nI (3 * t + k)) (mq_xo ce (3 * t) p L k) rc tk co ln ki nm nu pr fa := by
  intro d
  induction d with
  | zero =>
    intro k e
    have e : k = 3 := by omega
    subst e
    refine br_t (by rw [mi_a (3 * t) 3]; exact nI_le (Nat.le_refl _) (by omega)) ⟨vp_in_nI ht (by decide), ?_⟩
    rw [nI_clamp (by omega)]
    exact nm_e K
  | succ d ih =>
    intro k e
    refine br_f (by rw [mi_a (3 * t) 3]; exact nI_ge (by omega) (by omega)) ⟨L - p + 1, ?_⟩
    have h := mx_re48 (post := post) (J := wX_remove_36 post (nI t) (nI p) (nI L) (nI (3 * t)) gc pc tm (d + 1)) (x1 := nI t) (x2 := nI p) (x4 := nI (3 * t)) (ce := mq_xo ce (3 * t) p L k) (rc := rc) (tk := tk) (co := co) (ln := ln) (ki := ki) (nm := nm) (nu := nu) (pr := pr) (fa := fa) (gc := gc) (pc := pc) (tm := tm) (c := 3 * t + k) (p := p) (L := L) (by omega) hL (ih (k + 1) (by omega)) (L - p) p (Nat.le_refl _) (by omega)
    rw [mq_xr_0] at h
    exact h
theorem mx_re {post : Int32 → SX → Prop} {u : SX} (H : mq_XR n D m T C s u) {t p : Nat} (ht : t < 2) (hp : p < n t)
    (K : ∀ u', mq_XR (mq_nS n t (n t - 1)) (mq_Dre D t p) m T C s u' → post (nI (n t - 1)) u') : wpX_remove post u (nI t) (nI p) := by
  obtain ⟨gc, pc, tm, ce, rc, tk, co, ln, ki, nm, nu, pr, fa⟩ := u
  have h1 := H.1.1 t ht
  unfold wpX_remove
  dsimp only
  refine mx_ht ht ?_
  refine br_f (by decide) ?_
  refine mx_hr H.1 ht hp ?_
  refine br_f (by decide) ⟨vp_in_nI ht (by decide), ?_⟩
  refine nm_r (e' := nI (n t - 1)) (by rw [nI_clamp (by omega), h1.2, mn_s (by omega)]) ?_
  refine nm_r (e' := nI (3 * t)) (by rw [show (3 : Int32) = nI 3 from rfl, pk_mul, Nat.mul_comm]) ?_
  exact ⟨4, mx_re36 ht (by omega) (by omega) (K _ ⟨mq_tx_re H.1 ht hp, H.2⟩) 3 0 rfl⟩
theorem my_re44 {post : Int32 → SY → Prop} {tp gr fu pp : Int32} {ce rc tk co ln : Nat → Int32} {nm : Nat → Int64} {nu gn : Nat → Int32} {gk gs : Nat → Int64} {t L lo : Nat} (ht : t < 2) (hL : L < 16) (hrc : rc t = nI L)
    (K : post (nI L) (tp, gr, fu, pp, mq_yr ce lo (48 * t + 3 * L), rc, tk, co, ln, nm, nu, gn, gk, gs)) :
    ∀ d q, lo ≤ q → q + d = 48 * t + 3 * L → wY_remove_44 post (nI t) tp gr fu pp (d + 1) (nI q) (mq_yr ce lo q) rc tk co ln nm nu gn gk gs := by
  intro d
  induction d with
  | zero =>
    intro q hq e
    have e : q = 48 * t + 3 * L := by omega
    subst e
    refine ⟨vp_in_nI ht (by decide), ?_⟩
    rw [nI_clamp (by omega), hrc, mi_48]
    exact br_t (nI_le (Nat.le_refl _) (by omega)) ⟨vp_in_nI ht (by decide), K⟩
  | succ d ih =>
    intro q hq e
    refine ⟨vp_in_nI ht (by decide), ?_⟩
    rw [nI_clamp (n := t) (by omega), hrc, mi_48]
    refine br_f (nI_ge (by omega) (by omega)) ?_
    rw [mi_a q 3, nI_clamp (by omega), nI_clamp (by omega), mq_yr_s hq]
    exact ⟨vp_in_nI (by omega) (by decide), vp_in_nI (by omega) (by decide), nm_e (nm_r (nI_1 q) (ih (q + 1) (by omega) (by omega)))⟩
theorem my_re {post : Int32 → SY → Prop} {u : SY} (H : mq_YR n D m T C s u) {t p : Nat} (ht : t < 2) (hp : p < n t)
    (K : ∀ u', mq_YR (mq_nS n t (n t - 1)) (mq_Dre D t p) m T C s u' → post (nI (n t - 1)) u') : wpY_remove post u (nI t) (nI p) := by
  obtain ⟨tp, gr, fu, pp, ce, rc, tk, co, ln, nm, nu, gn, gk, gs⟩ := u
  have h1 := H.1.1 t ht
  refine br_f (nI_pos (by omega)) (br_f (nI_nlt (a := 1) (by omega) (by decide)) (br_f (nI_pos (by omega)) ⟨vp_in_nI ht (by decide), ?_⟩))
  rw [nI_clamp (by omega), h1.2]
  refine br_t (nI_lt hp (by omega)) ⟨vp_in_nI ht (by decide), vp_in_nI ht (by decide), nm_r (e' := upd rc t (nI (n t - 1))) (by rw [mn_s (by omega)]) (nm_r (mi_48 t p) ⟨3 * (n t - 1 - p) + 1, ?_⟩)⟩
  have h := my_re44 (post := post) (tp := tp) (gr := gr) (fu := fu) (pp := pp) (ce := ce) (rc := upd rc t (nI (n t - 1))) (tk := tk) (co := co) (ln := ln) (nm := nm) (nu := nu) (gn := gn) (gk := gk) (gs := gs) (lo := 48 * t + 3 * p) ht (L := n t - 1) (by omega) pk_us (K _ ⟨mq_ty_re H.1 ht hp, H.2⟩) (3 * (n t - 1 - p)) (48 * t + 3 * p) (Nat.le_refl _) (by omega)
  rw [mq_yr_0] at h
  exact h
theorem mx_ren {post : Int32 → SX → Prop} {u : SX} (H : mq_XR n D m T C s u) {x y : Int32} (hx : x < 0 ∨ nI 2 ≤ x ∨ ∃ t, t < 2 ∧ x = nI t ∧ (y < 0 ∨ nI (n t) ≤ y)) (h : post (-1) u) : wpX_remove post u x y := by
  obtain ⟨gc, pc, tm, ce, rc, tk, co, ln, ki, nm, nu, pr, fa⟩ := u
  unfold wpX_remove
  dsimp only
  rcases hx with hx | hx | ⟨t, ht, rfl, hy⟩
  · refine mx_htn (Or.inl hx) ?_
    exact br_t rfl h
  · refine mx_htn (Or.inr hx) ?_
    exact br_t rfl h
  · refine mx_ht ht ?_
    refine br_f (by decide) ?_
    refine mx_hrn H.1 ht hy ?_
    exact br_t rfl h
theorem my_ren {post : Int32 → SY → Prop} {u : SY} (H : mq_YR n D m T C s u) {x y : Int32} (hx : x < 0 ∨ nI 2 ≤ x ∨ ∃ t, t < 2 ∧ x = nI t ∧ (y < 0 ∨ nI (n t) ≤ y)) (h : post (-1) u) : wpY_remove post u x y := by
  obtain ⟨tp, gr, fu, pp, ce, rc, tk, co, ln, nm, nu, gn, gk, gs⟩ := u
  by_cases h0 : x < 0
  · exact br_t h0 h
  · obtain ⟨j, hj, rfl⟩ := nI_of h0
    rcases hx.resolve_left h0 with hx | ⟨t, ht, e, hy⟩
    · have h2 : 2 ≤ j := (nI_leI (by decide) hj).mp hx
      exact br_f h0 (br_t (nI_lt (a := 1) (by omega) hj) h)
    · have e : j = t := (nI_eq hj (by omega)).mp e
      subst e
      have h1 := H.1.1 j ht
      refine br_f h0 (br_f (nI_nlt (a := 1) (by omega) (by decide)) ?_)
      by_cases hy0 : y < 0
      · exact br_t hy0 h
      · refine br_f hy0 ⟨vp_in_nI ht (by decide), ?_⟩
        rw [nI_clamp (by omega), h1.2]
        exact br_f (Int32.not_lt.mpr (hy.resolve_left hy0)) h
theorem i_vc_remove {k : Nat} {u : SX} {v : SY} (I : i_Rel k u v) (hk : k + 5 ≤ 2560) (v1 : Int32) (v2 : Int32) : wpX_remove (fun r u' => wpY_remove (fun r' v' => r' = r ∧ i_Rel (k + 5) u' v') v v1 v2) u v1 v2 := by
  have I2 := I
  obtain ⟨n, D, m, T, C, s, hI, hX, hY⟩ := I
  rcases pk_ix v1 (n := 2) (by decide) with h | h | ⟨t, ht, rfl⟩
  · exact mx_ren hX (Or.inl h) (my_ren hY (Or.inl h) ⟨rfl, I2⟩)
  · exact mx_ren hX (Or.inr (Or.inl h)) (my_ren hY (Or.inr (Or.inl h)) ⟨rfl, I2⟩)
  · have h16 := mx_n16 hX t ht
    rcases pk_ix v2 (n := n t) (by omega) with h | h | ⟨p, hp, rfl⟩
    · exact mx_ren hX (Or.inr (Or.inr ⟨t, ht, rfl, Or.inl h⟩)) (my_ren hY (Or.inr (Or.inr ⟨t, ht, rfl, Or.inl h⟩)) ⟨rfl, I2⟩)
    · exact mx_ren hX (Or.inr (Or.inr ⟨t, ht, rfl, Or.inr h⟩)) (my_ren hY (Or.inr (Or.inr ⟨t, ht, rfl, Or.inr h⟩)) ⟨rfl, I2⟩)
    · exact mx_re hX ht hp (fun u' hX' => my_re hY ht hp (fun v' hY' => ⟨rfl, _, _, _, _, _, _, hI, hX', hY'⟩))
end MQ7
