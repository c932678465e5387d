section MQ6
/-! the relation -/
def mq_XR (n : Nat → Nat) (D : Nat → Nat → Int32) (m : Nat → Nat) (T C : Nat → Nat → Int32) (s : MqG) (u : SX) : Prop := match u with
  | (gc, pc, tm, ce, rc, tk, co, ln, ki, nm, nu, pr, fa) => mq_TX n D ce rc ∧ mq_EX m T C tk co ln ∧ mq_FX s fa ∧ gc = nI s.1 ∧ pc = s.2.2.2.2 ∧ tm = mq_bi s.2.2.2.1
def mq_YR (n : Nat → Nat) (D : Nat → Nat → Int32) (m : Nat → Nat) (T C : Nat → Nat → Int32) (s : MqG) (v : SY) : Prop := match v with
  | (tp, gr, fu, pp, ce, rc, tk, co, ln, nm, nu, gn, gk, gs) => mq_TY n D ce rc ∧ mq_EX m T C tk co ln ∧ mq_FY s gn gk gs ∧ gr = nI s.1 ∧ pp = s.2.2.2.2 ∧ fu = mq_bi s.2.2.2.1
def mq_In (m : Nat → Nat) (T : Nat → Nat → Int32) (s : MqG) : Prop := mq_EI m T ∧ mq_gi s ∧ (s.2.2.2.1 = true → s.1 = 0)
def i_Rel (k : Nat) (u : SX) (v : SY) : Prop := ∃ (n : Nat → Nat) (D : Nat → Nat → Int32) (m : Nat → Nat) (T C : Nat → Nat → Int32) (s : MqG), mq_In m T s ∧ mq_XR n D m T C s u ∧ mq_YR n D m T C s v
theorem i_up {k : Nat} {u : SX} {v : SY} (h : i_Rel k u v) : i_Rel (k + 5) u v := h
/-! index arithmetic -/
theorem mi_16 (a b : Nat) : nI a * 16 + nI b = nI (a * 16 + b) := by rw [show (16 : Int32) = nI 16 from rfl, pk_mul, nI_add]
theorem mi_60 (b : Nat) : 60 + nI b = nI (60 + b) := by rw [show (60 : Int32) = nI 60 from rfl, nI_add]
theorem mi_20 (a b : Nat) : nI a * 20 + nI b = nI (a * 20 + b) := by rw [show (20 : Int32) = nI 20 from rfl, pk_mul, nI_add]
theorem mi_20' (a : Nat) : 20 * nI a = nI (20 * a) := by rw [show (20 : Int32) = nI 20 from rfl, pk_mul]
theorem mi_3' (a : Nat) : 3 * nI a = nI (3 * a) := by rw [show (3 : Int32) = nI 3 from rfl, pk_mul]
theorem mi_48 (a b : Nat) : 48 * nI a + 3 * nI b = nI (48 * a + 3 * b) := by rw [show (48 : Int32) = nI 48 from rfl, pk_mul, mi_3', nI_add]
theorem mi_5 (a b : Nat) : 5 * nI a + nI b = nI (5 * a + b) := by rw [show (5 : Int32) = nI 5 from rfl, pk_mul, nI_add]
theorem mi_5' (a : Nat) : 5 * nI a = nI (5 * a) := by rw [show (5 : Int32) = nI 5 from rfl, pk_mul]
theorem mi_7 (a : Nat) : nI a * 7 = nI (a * 7) := by rw [show (7 : Int32) = nI 7 from rfl, pk_mul]
theorem mi_a (a b : Nat) {x : Int32} (hx : x = nI b := by rfl) : nI a + x = nI (a + b) := by rw [hx, nI_add]
theorem mi_d3 {c : Nat} (h : c < 6) : nI c / 3 = nI (c / 3) := pk_div (by omega) (by decide) (by decide)
theorem mi_r3 {c : Nat} (h : c < 6) : nI c - nI c / 3 * 3 = nI (c % 3) := pk_rem (by omega) (by decide) (by decide)
theorem mi_ge {x : Int32} (k : Nat) {y : Int32} (hy : y = nI k := by rfl) (h : ¬ x < 0) (h2 : ¬ x < y) (hk : k < 2 ^ 31 := by decide) : y ≤ x := by
  subst hy
  obtain ⟨j, hj, rfl⟩ := nI_of h
  rw [nI_ltI hj hk] at h2
  exact nI_le (by omega) hj
/-! tables: the small tests -/
theorem mx_ht {post : Int32 → Prop} {t : Nat} (ht : t < 2) (h : post 1) : wpX_hasTable post (nI t) :=
  br_f (nI_pos (by omega)) (br_f (nI_ge (b := 2) ht (by decide)) h)
theorem mx_htn {post : Int32 → Prop} {x : Int32} (hx : x < 0 ∨ nI 2 ≤ x) (h : post 0) : wpX_hasTable post x := by
  by_cases h0 : x < 0
  · exact br_t h0 h
  · exact br_f h0 (br_t (hx.resolve_left h0) h)
theorem mx_hr {post : Int32 → Prop} {gc pc tm : Int32} {ce rc tk co ln ki : Nat → Int32} {nm : Nat → Int64} {nu pr : Nat → Int32} {fa : Nat → Int64} {n : Nat → Nat} {D : Nat → Nat → Int32} (H : mq_TX n D ce rc) {t p : Nat} (ht : t < 2) (hp : p < n t) (h : post 1) : wpX_hasRow post (gc, pc, tm, ce, rc, tk, co, ln, ki, nm, nu, pr, fa) (nI t) (nI p) := by
  have h1 := H.1 t ht
  refine br_f (nI_pos (by omega)) ⟨vp_in_nI ht (by decide), ?_⟩
  rw [nI_clamp (by omega), h1.2]
  exact br_f (nI_ge hp (by omega)) h
theorem mx_hrn {post : Int32 → Prop} {gc pc tm : Int32} {ce rc tk co ln ki : Nat → Int32} {nm : Nat → Int64} {nu pr : Nat → Int32} {fa : Nat → Int64} {n : Nat → Nat} {D : Nat → Nat → Int32} (H : mq_TX n D ce rc) {t : Nat} {x : Int32} (ht : t < 2) (hp : x < 0 ∨ nI (n t) ≤ x) (h : post 0) : wpX_hasRow post (gc, pc, tm, ce, rc, tk, co, ln, ki, nm, nu, pr, fa) (nI t) x := by
  have h1 := H.1 t ht
  by_cases h0 : x < 0
  · exact br_t h0 h
  · refine br_f h0 ⟨vp_in_nI ht (by decide), ?_⟩
    rw [nI_clamp (by omega), h1.2]
    exact br_t (hp.resolve_left h0) h
theorem mx_hc {post : Int32 → Prop} {gc pc tm : Int32} {ce rc tk co ln ki : Nat → Int32} {nm : Nat → Int64} {nu pr : Nat → Int32} {fa : Nat → Int64} {n : Nat → Nat} {D : Nat → Nat → Int32} (H : mq_TX n D ce rc) {c p : Nat} (hc : c < 6) (hp : p < n (c / 3)) (h : post 1) : wpX_hasCell post (gc, pc, tm, ce, rc, tk, co, ln, ki, nm, nu, pr, fa) (nI c) (nI p) := by
  refine br_f (nI_pos (by omega)) (br_f (nI_ge (b := 6) hc (by decide)) ⟨by decide, ?_⟩)
  rw [mi_d3 hc]
  exact mx_hr H (by omega) hp (br_f (by decide) h)
theorem mx_hcn {post : Int32 → Prop} {gc pc tm : Int32} {ce rc tk co ln ki : Nat → Int32} {nm : Nat → Int64} {nu pr : Nat → Int32} {fa : Nat → Int64} {n : Nat → Nat} {D : Nat → Nat → Int32} (H : mq_TX n D ce rc) {x y : Int32} (hc : x < 0 ∨ nI 6 ≤ x ∨ ∃ c, c < 6 ∧ x = nI c ∧ (y < 0 ∨ nI (n (c / 3)) ≤ y)) (h : post 0) : wpX_hasCell post (gc, pc, tm, ce, rc, tk, co, ln, ki, nm, nu, pr, fa) x y := by
  by_cases h0 : x < 0
  · exact br_t h0 h
  · refine br_f h0 ?_
    by_cases h6 : nI 6 ≤ x
    · exact br_t h6 h
    · obtain ⟨c, hc6, rfl, hy⟩ := (hc.resolve_left h0).resolve_left h6
      refine br_f h6 ⟨by decide, ?_⟩
      rw [mi_d3 hc6]
      exact mx_hrn H (by omega) hy (br_t rfl h)
theorem my_fi {post : Int32 → Prop} {tp gr fu pp : Int32} {ce rc tk co ln : Nat → Int32} {nm : Nat → Int64} {nu gn : Nat → Int32} {gk gs : Nat → Int64} {n : Nat → Nat} {D : Nat → Nat → Int32} (H : mq_TY n D ce rc) {c p : Nat} (hc : c < 6) (hp : p < n (c / 3)) (h : post (nI (48 * (c / 3) + 3 * p + c % 3))) : wpY_find post (tp, gr, fu, pp, ce, rc, tk, co, ln, nm, nu, gn, gk, gs) (nI c) (nI p) := by
  have h1 := H.1 (c / 3) (by omega)
  refine br_f (nI_pos (by omega)) (br_f (nI_nlt (b := c) (a := 5) (by omega) (by decide)) (br_f (nI_pos (by omega)) ⟨by decide, ?_⟩))
  rw [mi_r3 hc, mi_d3 hc, mi_48, nI_add, nI_clamp (by omega), h1.2]
  exact ⟨vp_in_nI (by omega) (by decide), br_t (nI_lt hp (by omega)) ⟨by decide, by decide, h⟩⟩
theorem my_fin {post : Int32 → Prop} {tp gr fu pp : Int32} {ce rc tk co ln : Nat → Int32} {nm : Nat → Int64} {nu gn : Nat → Int32} {gk gs : Nat → Int64} {n : Nat → Nat} {D : Nat → Nat → Int32} (H : mq_TY n D ce rc) {x y : Int32} (hc : x < 0 ∨ nI 6 ≤ x ∨ ∃ c, c < 6 ∧ x = nI c ∧ (y < 0 ∨ nI (n (c / 3)) ≤ y)) (h : post (-1)) : wpY_find post (tp, gr, fu, pp, ce, rc, tk, co, ln, nm, nu, gn, gk, gs) x y := by
  by_cases h0 : x < 0
  · exact br_t h0 h
  · refine br_f h0 ?_
    obtain ⟨c, hc31, rfl⟩ := nI_of h0
    by_cases h6 : 6 ≤ c
    · exact br_t (nI_lt (a := 5) (by omega) hc31) h
    · refine br_f (nI_nlt (b := c) (a := 5) (by omega) (by decide)) ?_
      obtain ⟨c', hc6, ec, hy⟩ := (hc.resolve_left h0).resolve_left (nI_ge (b := 6) (by omega) (by decide))
      have ec : c = c' := (nI_eq hc31 (by omega)).mp ec
      subst ec
      by_cases hy0 : y < 0
      · exact br_t hy0 h
      · refine br_f hy0 ⟨by decide, ?_⟩
        have h1 := H.1 (c / 3) (by omega)
        rw [mi_d3 hc6, nI_clamp (by omega), h1.2]
        refine ⟨vp_in_nI (by omega) (by decide), br_f ?_ h⟩
        exact Int32.not_lt.mpr (hy.resolve_left hy0)
end MQ6
