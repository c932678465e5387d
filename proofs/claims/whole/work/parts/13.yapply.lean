section MQ13
theorem mq_tcase {nu : Int32} {x : Int64} {a : Option Int64} (h : mq_ry true nu x a) (ht : mq_tt a) : (a = none ∧ nu = 0 ∧ x = 2) ∨ (a = some 0 ∧ nu = 0 ∧ x = 0) ∨ (a = some 1 ∧ nu = 0 ∧ x = 1) := by
  rcases ht with rfl | rfl | rfl
  · exact Or.inl ⟨rfl, h.1, h.2⟩
  · exact Or.inr (Or.inl ⟨rfl, h.1, h.2⟩)
  · exact Or.inr (Or.inr ⟨rfl, h.1, h.2⟩)
theorem mq_ncase {nu : Int32} {x : Int64} {a : Option Int64} (h : mq_ry false nu x a) : (a = none ∧ nu = 1) ∨ (a = some x ∧ nu = 0) := by
  cases a with
  | none => exact Or.inl ⟨rfl, h.1⟩
  | some y => exact Or.inr ⟨congrArg some h.2.symm, h.1⟩
theorem my_push {post : SY → Prop} {gr fu pp : Int32} {ce rc tk co ln : Nat → Int32} {nm : Nat → Int64} {nu gn : Nat → Int32} {gk gs : Nat → Int64} {p : Nat} (hp : p < 24) {v : Int64} {z : Int32} (hz : z = 0 ∨ z = 1) {y : Int64} (hy : y = if z = 0 then v else 0)
    (K : post (nI (p + 1), gr, fu, pp, ce, rc, tk, co, ln, vp_updL nm p y, upd nu p z, gn, gk, gs)) : wpY_push post (nI p, gr, fu, pp, ce, rc, tk, co, ln, nm, nu, gn, gk, gs) v z := by
  have i1 : vp_in (nI p) 24 := vp_in_nI hp (by decide)
  have c1 : (nI p).toNatClampNeg = p := nI_clamp (by omega)
  rcases hz with rfl | rfl
  · rw [if_pos rfl] at hy
    subst hy
    refine br_t rfl ⟨i1, ?_⟩
    rw [c1, mn_b0, nI_1]
    exact nm_e ⟨i1, nm_e (nm_e K)⟩
  · rw [if_neg (by decide)] at hy
    subst hy
    refine br_f (by decide) ⟨i1, ?_⟩
    rw [c1, mn_b1, nI_1]
    exact nm_e ⟨i1, nm_e (nm_e K)⟩
theorem mq_n01 {k : Bool} {nu : Int32} {x : Int64} {a : Option Int64} (h : mq_ry k nu x a) : nu = 0 ∨ nu = 1 := by
  cases a with
  | none =>
    cases k with
    | true => exact Or.inl h.1
    | false => exact Or.inr h.1
  | some y => exact Or.inl h.1
theorem my_pre1 {post : SY → Prop} {gr fu pp : Int32} {ce rc tk co ln : Nat → Int32} {nm : Nat → Int64} {nu gn : Nat → Int32} {gk gs : Nat → Int64} {t : Int32} (ht : t ∈ mq_tk) (e2 : mq_ar t = 1) {p : Nat} (hp : p + 1 < 24) (z0 : nu p = 0 ∨ nu p = 1)
    (K : wY_apply_151 post t (nm p) (nu p) 0 0 0 0 (nu p) (nI p) gr fu pp ce rc tk co ln nm nu gn gk gs) : wpY_apply post (nI (p + 1), gr, fu, pp, ce, rc, tk, co, ln, nm, nu, gn, gk, gs) t := by
  have i0 : vp_in (nI (p)) 24 := vp_in_nI (by omega) (by decide)
  have c0 : (nI (p)).toNatClampNeg = p := nI_clamp (by omega)
  have s1 : nI (p + 1) - 1 = nI (p) := (pk_sub (a := p + 1) (b := 1) (by omega)).trans (congrArg nI (by omega))
  unfold wpY_apply
  dsimp only
  refine my_oc ht ?_
  rw [e2, show nI 1 = 1 from rfl, s1]
  rw [c0]
  refine ⟨i0, nm_e ⟨i0, nm_e ?_⟩⟩
  refine br_t (by decide) ?_
  refine br_t (by decide) ?_
  refine br_t (by decide) ?_
  refine br_t (by decide) ?_
  refine nm_r s1 ?_
  rcases z0 with z0 | z0
  · rw [z0] at K ⊢
    exact br_t rfl (br_t rfl K)
  · rw [z0] at K ⊢
    exact br_f (by decide) K
theorem my_pre2 {post : SY → Prop} {gr fu pp : Int32} {ce rc tk co ln : Nat → Int32} {nm : Nat → Int64} {nu gn : Nat → Int32} {gk gs : Nat → Int64} {t : Int32} (ht : t ∈ mq_tk) (e2 : mq_ar t = 2) {p : Nat} (hp : p + 2 < 24) (z0 : nu p = 0 ∨ nu p = 1) (z1 : nu (p + 1) = 0 ∨ nu (p + 1) = 1)
    (K : wY_apply_151 post t (nm (p + 1)) (nu (p + 1)) (nm p) (nu p) 0 0 (if nu (p + 1) = 0 then nu p else 1) (nI p) gr fu pp ce rc tk co ln nm nu gn gk gs) : wpY_apply post (nI (p + 2), gr, fu, pp, ce, rc, tk, co, ln, nm, nu, gn, gk, gs) t := by
  have i0 : vp_in (nI (p)) 24 := vp_in_nI (by omega) (by decide)
  have c0 : (nI (p)).toNatClampNeg = p := nI_clamp (by omega)
  have i1 : vp_in (nI (p + 1)) 24 := vp_in_nI (by omega) (by decide)
  have c1 : (nI (p + 1)).toNatClampNeg = p + 1 := nI_clamp (by omega)
  have s1 : nI (p + 2) - 1 = nI (p + 1) := (pk_sub (a := p + 2) (b := 1) (by omega)).trans (congrArg nI (by omega))
  have s2 : nI (p + 2) - 2 = nI (p) := (pk_sub (a := p + 2) (b := 2) (by omega)).trans (congrArg nI (by omega))
  unfold wpY_apply
  dsimp only
  refine my_oc ht ?_
  rw [e2, show nI 2 = 2 from rfl, s1, s2]
  rw [c1, c0]
  refine ⟨i1, nm_e ⟨i1, nm_e ?_⟩⟩
  refine br_f (by decide) ⟨i0, ?_⟩
  have q76 : wY_apply_76 post t 2 (nm (p + 1)) (nu (p + 1)) (nm p) (nu p) (nI (p + 2)) gr fu pp ce rc tk co ln nm nu gn gk gs := by
    refine br_t (by decide) (br_t (by decide) (nm_r s2 ?_))
    by_cases za : nu (p + 1) = 0
    · rw [if_pos za] at K
      refine br_t za ?_
      rcases z0 with z0 | z0
      · rw [z0] at K ⊢
        exact br_t rfl K
      · rw [z0] at K ⊢
        exact br_f (by decide) K
    · rw [if_neg za] at K
      exact br_f za K
  refine br_f (by decide) ?_
  rw [s2, c0]
  refine ⟨i0, ?_⟩
  rcases z0 with z0 | z0
  · rw [z0] at q76 ⊢
    exact br_t rfl q76
  · rw [z0] at q76 ⊢
    exact br_f (by decide) q76
theorem my_pre3 {post : SY → Prop} {gr fu pp : Int32} {ce rc tk co ln : Nat → Int32} {nm : Nat → Int64} {nu gn : Nat → Int32} {gk gs : Nat → Int64} {t : Int32} (ht : t ∈ mq_tk) (e2 : mq_ar t = 3) {p : Nat} (hp : p + 3 < 24) (z0 : nu p = 0 ∨ nu p = 1) (z1 : nu (p + 1) = 0 ∨ nu (p + 1) = 1) (z2 : nu (p + 2) = 0 ∨ nu (p + 2) = 1)
    (K : wY_apply_151 post t (nm (p + 2)) (nu (p + 2)) (nm (p + 1)) (nu (p + 1)) (nm p) (nu p) (if nu (p + 2) = 0 then nu (p + 1) else 1) (nI p) gr fu pp ce rc tk co ln nm nu gn gk gs) : wpY_apply post (nI (p + 3), gr, fu, pp, ce, rc, tk, co, ln, nm, nu, gn, gk, gs) t := by
  have i0 : vp_in (nI (p)) 24 := vp_in_nI (by omega) (by decide)
  have c0 : (nI (p)).toNatClampNeg = p := nI_clamp (by omega)
  have i1 : vp_in (nI (p + 1)) 24 := vp_in_nI (by omega) (by decide)
  have c1 : (nI (p + 1)).toNatClampNeg = p + 1 := nI_clamp (by omega)
  have i2 : vp_in (nI (p + 2)) 24 := vp_in_nI (by omega) (by decide)
  have c2 : (nI (p + 2)).toNatClampNeg = p + 2 := nI_clamp (by omega)
  have s1 : nI (p + 3) - 1 = nI (p + 2) := (pk_sub (a := p + 3) (b := 1) (by omega)).trans (congrArg nI (by omega))
  have s2 : nI (p + 3) - 2 = nI (p + 1) := (pk_sub (a := p + 3) (b := 2) (by omega)).trans (congrArg nI (by omega))
  have s3 : nI (p + 3) - 3 = nI (p) := (pk_sub (a := p + 3) (b := 3) (by omega)).trans (congrArg nI (by omega))
  unfold wpY_apply
  dsimp only
  refine my_oc ht ?_
  rw [e2, show nI 3 = 3 from rfl, s1, s2]
  rw [c2, c1]
  refine ⟨i2, nm_e ⟨i2, nm_e ?_⟩⟩
  refine br_f (by decide) ⟨i1, ?_⟩
  have q76 : wY_apply_76 post t 3 (nm (p + 2)) (nu (p + 2)) (nm (p + 1)) (nu (p + 1)) (nI (p + 3)) gr fu pp ce rc tk co ln nm nu gn gk gs := by
    refine br_f (by decide) ?_
    rw [s3, c0]
    refine ⟨i0, ?_⟩
    refine br_f (by decide) ?_
    rw [s3, c0]
    refine ⟨i0, ?_⟩
    have q124 : wY_apply_124 post t 3 (nm (p + 2)) (nu (p + 2)) (nm (p + 1)) (nu (p + 1)) (nm p) (nu p) (nI (p + 3)) gr fu pp ce rc tk co ln nm nu gn gk gs := by
      refine nm_r s3 ?_
      by_cases za : nu (p + 2) = 0
      · rw [if_pos za] at K
        refine br_t za ?_
        rcases z1 with z1 | z1
        · rw [z1] at K ⊢
          exact br_t rfl K
        · rw [z1] at K ⊢
          exact br_f (by decide) K
      · rw [if_neg za] at K
        exact br_f za K
    rcases z0 with z0 | z0
    · rw [z0] at q124 ⊢
      exact br_t rfl q124
    · rw [z0] at q124 ⊢
      exact br_f (by decide) q124
  refine br_f (by decide) ?_
  rw [s2, c1]
  refine ⟨i1, ?_⟩
  rcases z1 with z1 | z1
  · rw [z1] at q76 ⊢
    exact br_t rfl q76
  · rw [z1] at q76 ⊢
    exact br_f (by decide) q76
theorem my_h10 {post : SY → Prop} {gr fu pp : Int32} {ce rc tk co ln : Nat → Int32} {nm : Nat → Int64} {nu gn : Nat → Int32} {gk gs : Nat → Int64} {p : Nat} (hp : p + 2 < 24) {a b c : Option Int64} (ha : mq_ry false (nu (p + 1)) (nm (p + 1)) a) (hb : mq_ry false (nu p) (nm p) b)
    (K : ∀ x y, mq_ry false x y (mq_op 10 a b c) → post (nI (p + 1), gr, fu, pp, ce, rc, tk, co, ln, vp_updL nm p y, upd nu p x, gn, gk, gs)) : wpY_apply post (nI (p + 2), gr, fu, pp, ce, rc, tk, co, ln, nm, nu, gn, gk, gs) 10 := by
  refine my_pre2 (by decide) (by decide) hp (mq_n01 hb) (mq_n01 ha) ?_
  refine br_f (by decide) ?_
  refine br_f (by decide) (br_f (by decide) ?_)
  rcases mq_ncase ha with ⟨rfl, na⟩ | ⟨rfl, na⟩
  · rcases mq_ncase hb with ⟨rfl, nb⟩ | ⟨rfl, nb⟩
    · rw [na, if_neg (by decide)]
      refine br_f (by decide) (br_f (by decide) ?_)
      exact my_push (by omega) (Or.inr rfl) rfl (K _ _ (by simp [mq_ry, mq_op, mq_b2]))
    · rw [na, if_neg (by decide)]
      refine br_f (by decide) (br_f (by decide) ?_)
      exact my_push (by omega) (Or.inr rfl) rfl (K _ _ (by simp [mq_ry, mq_op, mq_b2]))
  · rcases mq_ncase hb with ⟨rfl, nb⟩ | ⟨rfl, nb⟩
    · rw [na, nb, if_pos rfl]
      refine br_f (by decide) (br_f (by decide) ?_)
      exact my_push (by omega) (Or.inr rfl) rfl (K _ _ (by simp [mq_ry, mq_op, mq_b2]))
    · rw [na, nb, if_pos rfl]
      refine br_t rfl (br_t rfl ?_)
      refine br_f (by decide) (br_f (by decide) (br_t rfl ?_))
      refine br_t rfl (br_t rfl ?_)
      exact my_push (by omega) (Or.inl rfl) rfl (K _ _ (by simp [mq_ry, mq_op, mq_b2]))
theorem my_h11 {post : SY → Prop} {gr fu pp : Int32} {ce rc tk co ln : Nat → Int32} {nm : Nat → Int64} {nu gn : Nat → Int32} {gk gs : Nat → Int64} {p : Nat} (hp : p + 2 < 24) {a b c : Option Int64} (ha : mq_ry false (nu (p + 1)) (nm (p + 1)) a) (hb : mq_ry false (nu p) (nm p) b)
    (K : ∀ x y, mq_ry false x y (mq_op 11 a b c) → post (nI (p + 1), gr, fu, pp, ce, rc, tk, co, ln, vp_updL nm p y, upd nu p x, gn, gk, gs)) : wpY_apply post (nI (p + 2), gr, fu, pp, ce, rc, tk, co, ln, nm, nu, gn, gk, gs) 11 := by
  refine my_pre2 (by decide) (by decide) hp (mq_n01 hb) (mq_n01 ha) ?_
  refine br_f (by decide) ?_
  refine br_f (by decide) (br_f (by decide) ?_)
  rcases mq_ncase ha with ⟨rfl, na⟩ | ⟨rfl, na⟩
  · rcases mq_ncase hb with ⟨rfl, nb⟩ | ⟨rfl, nb⟩
    · rw [na, if_neg (by decide)]
      refine br_f (by decide) (br_f (by decide) ?_)
      exact my_push (by omega) (Or.inr rfl) rfl (K _ _ (by simp [mq_ry, mq_op, mq_b2]))
    · rw [na, if_neg (by decide)]
      refine br_f (by decide) (br_f (by decide) ?_)
      exact my_push (by omega) (Or.inr rfl) rfl (K _ _ (by simp [mq_ry, mq_op, mq_b2]))
  · rcases mq_ncase hb with ⟨rfl, nb⟩ | ⟨rfl, nb⟩
    · rw [na, nb, if_pos rfl]
      refine br_f (by decide) (br_f (by decide) ?_)
      exact my_push (by omega) (Or.inr rfl) rfl (K _ _ (by simp [mq_ry, mq_op, mq_b2]))
    · rw [na, nb, if_pos rfl]
      refine br_t rfl (br_t rfl ?_)
      refine br_f (by decide) (br_f (by decide) (br_f (by decide) (br_t rfl ?_)))
      refine br_t rfl (br_t rfl ?_)
      exact my_push (by omega) (Or.inl rfl) rfl (K _ _ (by simp [mq_ry, mq_op, mq_b2]))
theorem my_h12 {post : SY → Prop} {gr fu pp : Int32} {ce rc tk co ln : Nat → Int32} {nm : Nat → Int64} {nu gn : Nat → Int32} {gk gs : Nat → Int64} {p : Nat} (hp : p + 2 < 24) {a b c : Option Int64} (ha : mq_ry false (nu (p + 1)) (nm (p + 1)) a) (hb : mq_ry false (nu p) (nm p) b)
    (K : ∀ x y, mq_ry false x y (mq_op 12 a b c) → post (nI (p + 1), gr, fu, pp, ce, rc, tk, co, ln, vp_updL nm p y, upd nu p x, gn, gk, gs)) : wpY_apply post (nI (p + 2), gr, fu, pp, ce, rc, tk, co, ln, nm, nu, gn, gk, gs) 12 := by
  refine my_pre2 (by decide) (by decide) hp (mq_n01 hb) (mq_n01 ha) ?_
  refine br_f (by decide) ?_
  refine br_f (by decide) (br_f (by decide) ?_)
  rcases mq_ncase ha with ⟨rfl, na⟩ | ⟨rfl, na⟩
  · rcases mq_ncase hb with ⟨rfl, nb⟩ | ⟨rfl, nb⟩
    · rw [na, if_neg (by decide)]
      refine br_f (by decide) (br_f (by decide) ?_)
      exact my_push (by omega) (Or.inr rfl) rfl (K _ _ (by simp [mq_ry, mq_op, mq_b2]))
    · rw [na, if_neg (by decide)]
      refine br_f (by decide) (br_f (by decide) ?_)
      exact my_push (by omega) (Or.inr rfl) rfl (K _ _ (by simp [mq_ry, mq_op, mq_b2]))
  · rcases mq_ncase hb with ⟨rfl, nb⟩ | ⟨rfl, nb⟩
    · rw [na, nb, if_pos rfl]
      refine br_f (by decide) (br_f (by decide) ?_)
      exact my_push (by omega) (Or.inr rfl) rfl (K _ _ (by simp [mq_ry, mq_op, mq_b2]))
    · rw [na, nb, if_pos rfl]
      refine br_t rfl (br_t rfl ?_)
      refine br_f (by decide) (br_f (by decide) (br_f (by decide) (br_f (by decide) (br_t rfl ?_))))
      refine br_t rfl (br_t rfl ?_)
      exact my_push (by omega) (Or.inl rfl) rfl (K _ _ (by simp [mq_ry, mq_op, mq_b2]))
theorem my_h13 {post : SY → Prop} {gr fu pp : Int32} {ce rc tk co ln : Nat → Int32} {nm : Nat → Int64} {nu gn : Nat → Int32} {gk gs : Nat → Int64} {p : Nat} (hp : p + 2 < 24) {a b c : Option Int64} (ha : mq_ry false (nu (p + 1)) (nm (p + 1)) a) (hb : mq_ry false (nu p) (nm p) b)
    (K : ∀ x y, mq_ry false x y (mq_op 13 a b c) → post (nI (p + 1), gr, fu, pp, ce, rc, tk, co, ln, vp_updL nm p y, upd nu p x, gn, gk, gs)) : wpY_apply post (nI (p + 2), gr, fu, pp, ce, rc, tk, co, ln, nm, nu, gn, gk, gs) 13 := by
  refine my_pre2 (by decide) (by decide) hp (mq_n01 hb) (mq_n01 ha) ?_
  refine br_f (by decide) ?_
  refine br_t rfl ?_
  rcases mq_ncase ha with ⟨rfl, na⟩ | ⟨rfl, na⟩
  · rcases mq_ncase hb with ⟨rfl, nb⟩ | ⟨rfl, nb⟩
    · rw [na, if_neg (by decide)]
      by_cases hz : nm p = 0
      · refine br_t hz (br_f (by decide) (br_f (by decide) ?_))
        exact my_push (by omega) (Or.inr rfl) rfl (K _ _ (by simp [mq_ry, mq_op, mq_b2]))
      · refine br_f hz (br_f (by decide) (br_f (by decide) ?_))
        exact my_push (by omega) (Or.inr rfl) rfl (K _ _ (by simp [mq_ry, mq_op, mq_b2]))
    · rw [na, if_neg (by decide)]
      by_cases hz : nm p = 0
      · refine br_t hz (br_f (by decide) (br_f (by decide) ?_))
        exact my_push (by omega) (Or.inr rfl) rfl (K _ _ (by simp [mq_ry, mq_op, mq_b2]))
      · refine br_f hz (br_f (by decide) (br_f (by decide) ?_))
        exact my_push (by omega) (Or.inr rfl) rfl (K _ _ (by simp [mq_ry, mq_op, mq_b2]))
  · rcases mq_ncase hb with ⟨rfl, nb⟩ | ⟨rfl, nb⟩
    · rw [na, nb, if_pos rfl]
      by_cases hz : nm p = 0
      · refine br_t hz (br_f (by decide) (br_f (by decide) ?_))
        exact my_push (by omega) (Or.inr rfl) rfl (K _ _ (by simp [mq_ry, mq_op, mq_b2]))
      · refine br_f hz (br_f (by decide) (br_f (by decide) ?_))
        exact my_push (by omega) (Or.inr rfl) rfl (K _ _ (by simp [mq_ry, mq_op, mq_b2]))
    · rw [na, nb, if_pos rfl]
      by_cases hz : nm p = 0
      · refine br_t hz (br_t rfl (br_f (by decide) (br_t rfl (br_f (by decide) ?_))))
        exact my_push (by omega) (Or.inr rfl) rfl (K _ _ (by simp [mq_ry, mq_op, mq_b2, hz]))
      · refine br_f hz (br_t rfl (br_t rfl ?_))
        refine br_f (by decide) (br_f (by decide) (br_f (by decide) (br_f (by decide) (br_f (by decide) (br_t rfl (br_f hz ⟨hz, ?_⟩))))))
        refine br_t rfl (br_t rfl ?_)
        exact my_push (by omega) (Or.inl rfl) rfl (K _ _ (by simp [mq_ry, mq_op, mq_b2, hz]))
theorem my_h14 {post : SY → Prop} {gr fu pp : Int32} {ce rc tk co ln : Nat → Int32} {nm : Nat → Int64} {nu gn : Nat → Int32} {gk gs : Nat → Int64} {p : Nat} (hp : p + 2 < 24) {a b c : Option Int64} (ha : mq_ry false (nu (p + 1)) (nm (p + 1)) a) (hb : mq_ry false (nu p) (nm p) b)
    (K : ∀ x y, mq_ry false x y (mq_op 14 a b c) → post (nI (p + 1), gr, fu, pp, ce, rc, tk, co, ln, vp_updL nm p y, upd nu p x, gn, gk, gs)) : wpY_apply post (nI (p + 2), gr, fu, pp, ce, rc, tk, co, ln, nm, nu, gn, gk, gs) 14 := by
  refine my_pre2 (by decide) (by decide) hp (mq_n01 hb) (mq_n01 ha) ?_
  refine br_f (by decide) ?_
  refine br_f (by decide) (br_t rfl ?_)
  rcases mq_ncase ha with ⟨rfl, na⟩ | ⟨rfl, na⟩
  · rcases mq_ncase hb with ⟨rfl, nb⟩ | ⟨rfl, nb⟩
    · rw [na, if_neg (by decide)]
      by_cases hz : nm p = 0
      · refine br_t hz (br_f (by decide) (br_f (by decide) ?_))
        exact my_push (by omega) (Or.inr rfl) rfl (K _ _ (by simp [mq_ry, mq_op, mq_b2]))
      · refine br_f hz (br_f (by decide) (br_f (by decide) ?_))
        exact my_push (by omega) (Or.inr rfl) rfl (K _ _ (by simp [mq_ry, mq_op, mq_b2]))
    · rw [na, if_neg (by decide)]
      by_cases hz : nm p = 0
      · refine br_t hz (br_f (by decide) (br_f (by decide) ?_))
        exact my_push (by omega) (Or.inr rfl) rfl (K _ _ (by simp [mq_ry, mq_op, mq_b2]))
      · refine br_f hz (br_f (by decide) (br_f (by decide) ?_))
        exact my_push (by omega) (Or.inr rfl) rfl (K _ _ (by simp [mq_ry, mq_op, mq_b2]))
  · rcases mq_ncase hb with ⟨rfl, nb⟩ | ⟨rfl, nb⟩
    · rw [na, nb, if_pos rfl]
      by_cases hz : nm p = 0
      · refine br_t hz (br_f (by decide) (br_f (by decide) ?_))
        exact my_push (by omega) (Or.inr rfl) rfl (K _ _ (by simp [mq_ry, mq_op, mq_b2]))
      · refine br_f hz (br_f (by decide) (br_f (by decide) ?_))
        exact my_push (by omega) (Or.inr rfl) rfl (K _ _ (by simp [mq_ry, mq_op, mq_b2]))
    · rw [na, nb, if_pos rfl]
      by_cases hz : nm p = 0
      · refine br_t hz (br_t rfl (br_f (by decide) (br_t rfl (br_f (by decide) ?_))))
        exact my_push (by omega) (Or.inr rfl) rfl (K _ _ (by simp [mq_ry, mq_op, mq_b2, hz]))
      · refine br_f hz (br_t rfl (br_t rfl ?_))
        refine br_f (by decide) (br_f (by decide) (br_f (by decide) (br_f (by decide) (br_f (by decide) (br_f (by decide) (br_t rfl (br_f hz ⟨hz, ?_⟩)))))))
        refine br_t rfl (br_t rfl ?_)
        exact my_push (by omega) (Or.inl rfl) rfl (K _ _ (by simp [mq_ry, mq_op, mq_b2, hz]))
theorem my_h15 {post : SY → Prop} {gr fu pp : Int32} {ce rc tk co ln : Nat → Int32} {nm : Nat → Int64} {nu gn : Nat → Int32} {gk gs : Nat → Int64} {p : Nat} (hp : p + 1 < 24) {a b c : Option Int64} (ha : mq_ry false (nu p) (nm p) a)
    (K : ∀ x y, mq_ry false x y (mq_op 15 a b c) → post (nI (p + 1), gr, fu, pp, ce, rc, tk, co, ln, vp_updL nm p y, upd nu p x, gn, gk, gs)) : wpY_apply post (nI (p + 1), gr, fu, pp, ce, rc, tk, co, ln, nm, nu, gn, gk, gs) 15 := by
  refine my_pre1 (by decide) (by decide) hp (mq_n01 ha) ?_
  refine br_f (by decide) ?_
  refine br_f (by decide) (br_f (by decide) ?_)
  rcases mq_ncase ha with ⟨rfl, na⟩ | ⟨rfl, na⟩
  · rw [na]
    refine br_f (by decide) (br_f (by decide) ?_)
    exact my_push (by omega) (Or.inr rfl) rfl (K _ _ (by simp [mq_ry, mq_op, mq_b2]))
  · rw [na]
    refine br_t rfl (br_t rfl ?_)
    refine br_f (by decide) (br_t (by decide) ?_)
    refine br_t rfl (br_t rfl ?_)
    exact my_push (by omega) (Or.inl rfl) rfl (K _ _ (by simp [mq_ry, mq_op, mq_b2]))
theorem my_h16 {post : SY → Prop} {gr fu pp : Int32} {ce rc tk co ln : Nat → Int32} {nm : Nat → Int64} {nu gn : Nat → Int32} {gk gs : Nat → Int64} {p : Nat} (hp : p + 2 < 24) {a b c : Option Int64} (ha : mq_ry false (nu (p + 1)) (nm (p + 1)) a) (hb : mq_ry false (nu p) (nm p) b)
    (K : ∀ x y, mq_ry false x y (mq_op 16 a b c) → post (nI (p + 1), gr, fu, pp, ce, rc, tk, co, ln, vp_updL nm p y, upd nu p x, gn, gk, gs)) : wpY_apply post (nI (p + 2), gr, fu, pp, ce, rc, tk, co, ln, nm, nu, gn, gk, gs) 16 := by
  refine my_pre2 (by decide) (by decide) hp (mq_n01 hb) (mq_n01 ha) ?_
  refine br_t (by decide) (br_t rfl ?_)
  rcases mq_ncase ha with ⟨rfl, na⟩ | ⟨rfl, na⟩
  · rcases mq_ncase hb with ⟨rfl, nb⟩ | ⟨rfl, nb⟩
    · rw [na, nb]
      refine br_f (by decide) (br_f (by decide) (br_f (by decide) ?_))
      exact my_push (by omega) (Or.inr rfl) rfl (K _ _ (by simp [mq_ry, mq_op, mq_b2]))
    · rw [na, nb]
      refine br_f (by decide) (br_f (by decide) (br_t rfl ?_))
      exact my_push (by omega) (Or.inl rfl) rfl (K _ _ (by simp [mq_ry, mq_op, mq_b2]))
  · rcases mq_ncase hb with ⟨rfl, nb⟩ | ⟨rfl, nb⟩
    · rw [na, nb]
      refine br_t rfl (br_t rfl ?_)
      exact my_push (by omega) (Or.inl rfl) rfl (K _ _ (by simp [mq_ry, mq_op, mq_b2]))
    · rw [na, nb]
      refine br_t rfl (br_t rfl ?_)
      exact my_push (by omega) (Or.inl rfl) rfl (K _ _ (by simp [mq_ry, mq_op, mq_b2]))
theorem my_h20 {post : SY → Prop} {gr fu pp : Int32} {ce rc tk co ln : Nat → Int32} {nm : Nat → Int64} {nu gn : Nat → Int32} {gk gs : Nat → Int64} {p : Nat} (hp : p + 2 < 24) {a b c : Option Int64} (ha : mq_ry false (nu (p + 1)) (nm (p + 1)) a) (hb : mq_ry false (nu p) (nm p) b)
    (K : ∀ x y, mq_ry true x y (mq_op 20 a b c) → post (nI (p + 1), gr, fu, pp, ce, rc, tk, co, ln, vp_updL nm p y, upd nu p x, gn, gk, gs)) : wpY_apply post (nI (p + 2), gr, fu, pp, ce, rc, tk, co, ln, nm, nu, gn, gk, gs) 20 := by
  refine my_pre2 (by decide) (by decide) hp (mq_n01 hb) (mq_n01 ha) ?_
  refine br_t (by decide) (br_f (by decide) (br_f (by decide) ?_))
  refine br_t rfl ?_
  rcases mq_ncase ha with ⟨rfl, na⟩ | ⟨rfl, na⟩
  · rcases mq_ncase hb with ⟨rfl, nb⟩ | ⟨rfl, nb⟩
    · rw [na, if_neg (by decide)]
      by_cases hz : nm (p + 1) = nm p
      · refine br_t hz (br_f (by decide) ?_)
        exact my_push (by omega) (Or.inl rfl) rfl (K _ _ (by simp [mq_ry, mq_op, mq_b2]))
      · refine br_f hz (br_f (by decide) ?_)
        exact my_push (by omega) (Or.inl rfl) rfl (K _ _ (by simp [mq_ry, mq_op, mq_b2]))
    · rw [na, if_neg (by decide)]
      by_cases hz : nm (p + 1) = nm p
      · refine br_t hz (br_f (by decide) ?_)
        exact my_push (by omega) (Or.inl rfl) rfl (K _ _ (by simp [mq_ry, mq_op, mq_b2]))
      · refine br_f hz (br_f (by decide) ?_)
        exact my_push (by omega) (Or.inl rfl) rfl (K _ _ (by simp [mq_ry, mq_op, mq_b2]))
  · rcases mq_ncase hb with ⟨rfl, nb⟩ | ⟨rfl, nb⟩
    · rw [na, nb, if_pos rfl]
      by_cases hz : nm (p + 1) = nm p
      · refine br_t hz (br_f (by decide) ?_)
        exact my_push (by omega) (Or.inl rfl) rfl (K _ _ (by simp [mq_ry, mq_op, mq_b2]))
      · refine br_f hz (br_f (by decide) ?_)
        exact my_push (by omega) (Or.inl rfl) rfl (K _ _ (by simp [mq_ry, mq_op, mq_b2]))
    · rw [na, nb, if_pos rfl]
      by_cases hz : nm (p + 1) = nm p
      · refine br_t hz (br_t rfl (br_f (by decide) ?_))
        exact my_push (by omega) (Or.inl rfl) rfl (K _ _ (by simp [mq_ry, mq_op, mq_b2, hz]))
      · refine br_f hz (br_t rfl (br_t rfl ?_))
        exact my_push (by omega) (Or.inl rfl) rfl (K _ _ (by simp [mq_ry, mq_op, mq_b2, hz]))
theorem my_h21 {post : SY → Prop} {gr fu pp : Int32} {ce rc tk co ln : Nat → Int32} {nm : Nat → Int64} {nu gn : Nat → Int32} {gk gs : Nat → Int64} {p : Nat} (hp : p + 2 < 24) {a b c : Option Int64} (ha : mq_ry false (nu (p + 1)) (nm (p + 1)) a) (hb : mq_ry false (nu p) (nm p) b)
    (K : ∀ x y, mq_ry true x y (mq_op 21 a b c) → post (nI (p + 1), gr, fu, pp, ce, rc, tk, co, ln, vp_updL nm p y, upd nu p x, gn, gk, gs)) : wpY_apply post (nI (p + 2), gr, fu, pp, ce, rc, tk, co, ln, nm, nu, gn, gk, gs) 21 := by
  refine my_pre2 (by decide) (by decide) hp (mq_n01 hb) (mq_n01 ha) ?_
  refine br_t (by decide) (br_f (by decide) (br_f (by decide) ?_))
  refine br_f (by decide) ?_
  refine br_t rfl ?_
  rcases mq_ncase ha with ⟨rfl, na⟩ | ⟨rfl, na⟩
  · rcases mq_ncase hb with ⟨rfl, nb⟩ | ⟨rfl, nb⟩
    · rw [na, if_neg (by decide)]
      by_cases hz : nm p ≤ nm (p + 1)
      · have hz' : ¬ nm (p + 1) < nm p := Int64.not_lt.mpr hz
        refine br_t hz (br_f (by decide) ?_)
        exact my_push (by omega) (Or.inl rfl) rfl (K _ _ (by simp [mq_ry, mq_op, mq_b2]))
      · have hz' : nm (p + 1) < nm p := Int64.not_le.mp hz
        refine br_f hz (br_f (by decide) ?_)
        exact my_push (by omega) (Or.inl rfl) rfl (K _ _ (by simp [mq_ry, mq_op, mq_b2]))
    · rw [na, if_neg (by decide)]
      by_cases hz : nm p ≤ nm (p + 1)
      · have hz' : ¬ nm (p + 1) < nm p := Int64.not_lt.mpr hz
        refine br_t hz (br_f (by decide) ?_)
        exact my_push (by omega) (Or.inl rfl) rfl (K _ _ (by simp [mq_ry, mq_op, mq_b2]))
      · have hz' : nm (p + 1) < nm p := Int64.not_le.mp hz
        refine br_f hz (br_f (by decide) ?_)
        exact my_push (by omega) (Or.inl rfl) rfl (K _ _ (by simp [mq_ry, mq_op, mq_b2]))
  · rcases mq_ncase hb with ⟨rfl, nb⟩ | ⟨rfl, nb⟩
    · rw [na, nb, if_pos rfl]
      by_cases hz : nm p ≤ nm (p + 1)
      · have hz' : ¬ nm (p + 1) < nm p := Int64.not_lt.mpr hz
        refine br_t hz (br_f (by decide) ?_)
        exact my_push (by omega) (Or.inl rfl) rfl (K _ _ (by simp [mq_ry, mq_op, mq_b2]))
      · have hz' : nm (p + 1) < nm p := Int64.not_le.mp hz
        refine br_f hz (br_f (by decide) ?_)
        exact my_push (by omega) (Or.inl rfl) rfl (K _ _ (by simp [mq_ry, mq_op, mq_b2]))
    · rw [na, nb, if_pos rfl]
      by_cases hz : nm p ≤ nm (p + 1)
      · have hz' : ¬ nm (p + 1) < nm p := Int64.not_lt.mpr hz
        refine br_t hz (br_t rfl (br_t rfl ?_))
        exact my_push (by omega) (Or.inl rfl) rfl (K _ _ (by simp [mq_ry, mq_op, mq_b2, hz, hz']))
      · have hz' : nm (p + 1) < nm p := Int64.not_le.mp hz
        refine br_f hz (br_t rfl (br_f (by decide) ?_))
        exact my_push (by omega) (Or.inl rfl) rfl (K _ _ (by simp [mq_ry, mq_op, mq_b2, hz, hz']))
theorem my_h22 {post : SY → Prop} {gr fu pp : Int32} {ce rc tk co ln : Nat → Int32} {nm : Nat → Int64} {nu gn : Nat → Int32} {gk gs : Nat → Int64} {p : Nat} (hp : p + 2 < 24) {a b c : Option Int64} (ha : mq_ry false (nu (p + 1)) (nm (p + 1)) a) (hb : mq_ry false (nu p) (nm p) b)
    (K : ∀ x y, mq_ry true x y (mq_op 22 a b c) → post (nI (p + 1), gr, fu, pp, ce, rc, tk, co, ln, vp_updL nm p y, upd nu p x, gn, gk, gs)) : wpY_apply post (nI (p + 2), gr, fu, pp, ce, rc, tk, co, ln, nm, nu, gn, gk, gs) 22 := by
  refine my_pre2 (by decide) (by decide) hp (mq_n01 hb) (mq_n01 ha) ?_
  refine br_t (by decide) (br_f (by decide) (br_f (by decide) ?_))
  refine br_f (by decide) ?_
  refine br_f (by decide) ?_
  refine br_t rfl ?_
  rcases mq_ncase ha with ⟨rfl, na⟩ | ⟨rfl, na⟩
  · rcases mq_ncase hb with ⟨rfl, nb⟩ | ⟨rfl, nb⟩
    · rw [na, if_neg (by decide)]
      by_cases hz : nm p < nm (p + 1)
      · have hz' : ¬ nm (p + 1) ≤ nm p := Int64.not_le.mpr hz
        refine br_t hz (br_f (by decide) ?_)
        exact my_push (by omega) (Or.inl rfl) rfl (K _ _ (by simp [mq_ry, mq_op, mq_b2]))
      · have hz' : nm (p + 1) ≤ nm p := Int64.not_lt.mp hz
        refine br_f hz (br_f (by decide) ?_)
        exact my_push (by omega) (Or.inl rfl) rfl (K _ _ (by simp [mq_ry, mq_op, mq_b2]))
    · rw [na, if_neg (by decide)]
      by_cases hz : nm p < nm (p + 1)
      · have hz' : ¬ nm (p + 1) ≤ nm p := Int64.not_le.mpr hz
        refine br_t hz (br_f (by decide) ?_)
        exact my_push (by omega) (Or.inl rfl) rfl (K _ _ (by simp [mq_ry, mq_op, mq_b2]))
      · have hz' : nm (p + 1) ≤ nm p := Int64.not_lt.mp hz
        refine br_f hz (br_f (by decide) ?_)
        exact my_push (by omega) (Or.inl rfl) rfl (K _ _ (by simp [mq_ry, mq_op, mq_b2]))
  · rcases mq_ncase hb with ⟨rfl, nb⟩ | ⟨rfl, nb⟩
    · rw [na, nb, if_pos rfl]
      by_cases hz : nm p < nm (p + 1)
      · have hz' : ¬ nm (p + 1) ≤ nm p := Int64.not_le.mpr hz
        refine br_t hz (br_f (by decide) ?_)
        exact my_push (by omega) (Or.inl rfl) rfl (K _ _ (by simp [mq_ry, mq_op, mq_b2]))
      · have hz' : nm (p + 1) ≤ nm p := Int64.not_lt.mp hz
        refine br_f hz (br_f (by decide) ?_)
        exact my_push (by omega) (Or.inl rfl) rfl (K _ _ (by simp [mq_ry, mq_op, mq_b2]))
    · rw [na, nb, if_pos rfl]
      by_cases hz : nm p < nm (p + 1)
      · have hz' : ¬ nm (p + 1) ≤ nm p := Int64.not_le.mpr hz
        refine br_t hz (br_t rfl (br_t rfl ?_))
        exact my_push (by omega) (Or.inl rfl) rfl (K _ _ (by simp [mq_ry, mq_op, mq_b2, hz, hz']))
      · have hz' : nm (p + 1) ≤ nm p := Int64.not_lt.mp hz
        refine br_f hz (br_t rfl (br_f (by decide) ?_))
        exact my_push (by omega) (Or.inl rfl) rfl (K _ _ (by simp [mq_ry, mq_op, mq_b2, hz, hz']))
theorem my_h23 {post : SY → Prop} {gr fu pp : Int32} {ce rc tk co ln : Nat → Int32} {nm : Nat → Int64} {nu gn : Nat → Int32} {gk gs : Nat → Int64} {p : Nat} (hp : p + 2 < 24) {a b c : Option Int64} (ha : mq_ry false (nu (p + 1)) (nm (p + 1)) a) (hb : mq_ry false (nu p) (nm p) b)
    (K : ∀ x y, mq_ry true x y (mq_op 23 a b c) → post (nI (p + 1), gr, fu, pp, ce, rc, tk, co, ln, vp_updL nm p y, upd nu p x, gn, gk, gs)) : wpY_apply post (nI (p + 2), gr, fu, pp, ce, rc, tk, co, ln, nm, nu, gn, gk, gs) 23 := by
  refine my_pre2 (by decide) (by decide) hp (mq_n01 hb) (mq_n01 ha) ?_
  refine br_t (by decide) (br_f (by decide) (br_f (by decide) ?_))
  refine br_f (by decide) ?_
  refine br_f (by decide) ?_
  refine br_f (by decide) ?_
  rcases mq_ncase ha with ⟨rfl, na⟩ | ⟨rfl, na⟩
  · rcases mq_ncase hb with ⟨rfl, nb⟩ | ⟨rfl, nb⟩
    · rw [na, if_neg (by decide)]
      by_cases hz : nm (p + 1) = nm p
      · refine br_t hz (br_f (by decide) ?_)
        exact my_push (by omega) (Or.inl rfl) rfl (K _ _ (by simp [mq_ry, mq_op, mq_b2]))
      · refine br_f hz (br_f (by decide) ?_)
        exact my_push (by omega) (Or.inl rfl) rfl (K _ _ (by simp [mq_ry, mq_op, mq_b2]))
    · rw [na, if_neg (by decide)]
      by_cases hz : nm (p + 1) = nm p
      · refine br_t hz (br_f (by decide) ?_)
        exact my_push (by omega) (Or.inl rfl) rfl (K _ _ (by simp [mq_ry, mq_op, mq_b2]))
      · refine br_f hz (br_f (by decide) ?_)
        exact my_push (by omega) (Or.inl rfl) rfl (K _ _ (by simp [mq_ry, mq_op, mq_b2]))
  · rcases mq_ncase hb with ⟨rfl, nb⟩ | ⟨rfl, nb⟩
    · rw [na, nb, if_pos rfl]
      by_cases hz : nm (p + 1) = nm p
      · refine br_t hz (br_f (by decide) ?_)
        exact my_push (by omega) (Or.inl rfl) rfl (K _ _ (by simp [mq_ry, mq_op, mq_b2]))
      · refine br_f hz (br_f (by decide) ?_)
        exact my_push (by omega) (Or.inl rfl) rfl (K _ _ (by simp [mq_ry, mq_op, mq_b2]))
    · rw [na, nb, if_pos rfl]
      by_cases hz : nm (p + 1) = nm p
      · refine br_t hz (br_t rfl (br_t rfl ?_))
        exact my_push (by omega) (Or.inl rfl) rfl (K _ _ (by simp [mq_ry, mq_op, mq_b2, hz]))
      · refine br_f hz (br_t rfl (br_f (by decide) ?_))
        exact my_push (by omega) (Or.inl rfl) rfl (K _ _ (by simp [mq_ry, mq_op, mq_b2, hz]))
theorem my_h30 {post : SY → Prop} {gr fu pp : Int32} {ce rc tk co ln : Nat → Int32} {nm : Nat → Int64} {nu gn : Nat → Int32} {gk gs : Nat → Int64} {p : Nat} (hp : p + 2 < 24) {a b c : Option Int64} (ha : mq_ry true (nu (p + 1)) (nm (p + 1)) a) (ta : mq_tt a) (hb : mq_ry true (nu p) (nm p) b) (tb : mq_tt b)
    (K : ∀ x y, mq_ry true x y (mq_op 30 a b c) → post (nI (p + 1), gr, fu, pp, ce, rc, tk, co, ln, vp_updL nm p y, upd nu p x, gn, gk, gs)) : wpY_apply post (nI (p + 2), gr, fu, pp, ce, rc, tk, co, ln, nm, nu, gn, gk, gs) 30 := by
  refine my_pre2 (by decide) (by decide) hp (mq_n01 hb) (mq_n01 ha) ?_
  refine br_t (by decide) (br_f (by decide) (br_t (by decide) ?_))
  refine br_t rfl ?_
  rcases mq_tcase ha ta with ⟨rfl, na, va⟩ | ⟨rfl, na, va⟩ | ⟨rfl, na, va⟩
  · rcases mq_tcase hb tb with ⟨rfl, nb, vb⟩ | ⟨rfl, nb, vb⟩ | ⟨rfl, nb, vb⟩
    · rw [va, vb]
      refine br_f (by decide) (br_f (by decide) (br_t rfl ?_))
      exact my_push (by omega) (Or.inl rfl) rfl (K _ _ (by simp [mq_ry, mq_op, mq_b2]))
    · rw [va, vb]
      refine br_f (by decide) (br_t rfl ?_)
      exact my_push (by omega) (Or.inl rfl) rfl (K _ _ (by simp [mq_ry, mq_op, mq_b2]))
    · rw [va, vb]
      refine br_f (by decide) (br_f (by decide) (br_t rfl ?_))
      exact my_push (by omega) (Or.inl rfl) rfl (K _ _ (by simp [mq_ry, mq_op, mq_b2]))
  · rcases mq_tcase hb tb with ⟨rfl, nb, vb⟩ | ⟨rfl, nb, vb⟩ | ⟨rfl, nb, vb⟩
    · rw [va, vb]
      refine br_t rfl ?_
      exact my_push (by omega) (Or.inl rfl) rfl (K _ _ (by simp [mq_ry, mq_op, mq_b2]))
    · rw [va, vb]
      refine br_t rfl ?_
      exact my_push (by omega) (Or.inl rfl) rfl (K _ _ (by simp [mq_ry, mq_op, mq_b2]))
    · rw [va, vb]
      refine br_t rfl ?_
      exact my_push (by omega) (Or.inl rfl) rfl (K _ _ (by simp [mq_ry, mq_op, mq_b2]))
  · rcases mq_tcase hb tb with ⟨rfl, nb, vb⟩ | ⟨rfl, nb, vb⟩ | ⟨rfl, nb, vb⟩
    · rw [va, vb]
      refine br_f (by decide) (br_f (by decide) (br_f (by decide) (br_t rfl ?_)))
      exact my_push (by omega) (Or.inl rfl) rfl (K _ _ (by simp [mq_ry, mq_op, mq_b2]))
    · rw [va, vb]
      refine br_f (by decide) (br_t rfl ?_)
      exact my_push (by omega) (Or.inl rfl) rfl (K _ _ (by simp [mq_ry, mq_op, mq_b2]))
    · rw [va, vb]
      refine br_f (by decide) (br_f (by decide) (br_f (by decide) (br_f (by decide) ?_)))
      exact my_push (by omega) (Or.inl rfl) rfl (K _ _ (by simp [mq_ry, mq_op, mq_b2]))
theorem my_h31 {post : SY → Prop} {gr fu pp : Int32} {ce rc tk co ln : Nat → Int32} {nm : Nat → Int64} {nu gn : Nat → Int32} {gk gs : Nat → Int64} {p : Nat} (hp : p + 2 < 24) {a b c : Option Int64} (ha : mq_ry true (nu (p + 1)) (nm (p + 1)) a) (ta : mq_tt a) (hb : mq_ry true (nu p) (nm p) b) (tb : mq_tt b)
    (K : ∀ x y, mq_ry true x y (mq_op 31 a b c) → post (nI (p + 1), gr, fu, pp, ce, rc, tk, co, ln, vp_updL nm p y, upd nu p x, gn, gk, gs)) : wpY_apply post (nI (p + 2), gr, fu, pp, ce, rc, tk, co, ln, nm, nu, gn, gk, gs) 31 := by
  refine my_pre2 (by decide) (by decide) hp (mq_n01 hb) (mq_n01 ha) ?_
  refine br_t (by decide) (br_f (by decide) (br_t (by decide) ?_))
  refine br_f (by decide) ?_
  refine br_t rfl ?_
  rcases mq_tcase ha ta with ⟨rfl, na, va⟩ | ⟨rfl, na, va⟩ | ⟨rfl, na, va⟩
  · rcases mq_tcase hb tb with ⟨rfl, nb, vb⟩ | ⟨rfl, nb, vb⟩ | ⟨rfl, nb, vb⟩
    · rw [va, vb]
      refine br_f (by decide) (br_f (by decide) (br_t rfl ?_))
      exact my_push (by omega) (Or.inl rfl) rfl (K _ _ (by simp [mq_ry, mq_op, mq_b2]))
    · rw [va, vb]
      refine br_f (by decide) (br_f (by decide) (br_t rfl ?_))
      exact my_push (by omega) (Or.inl rfl) rfl (K _ _ (by simp [mq_ry, mq_op, mq_b2]))
    · rw [va, vb]
      refine br_f (by decide) (br_t rfl ?_)
      exact my_push (by omega) (Or.inl rfl) rfl (K _ _ (by simp [mq_ry, mq_op, mq_b2]))
  · rcases mq_tcase hb tb with ⟨rfl, nb, vb⟩ | ⟨rfl, nb, vb⟩ | ⟨rfl, nb, vb⟩
    · rw [va, vb]
      refine br_f (by decide) (br_f (by decide) (br_f (by decide) (br_t rfl ?_)))
      exact my_push (by omega) (Or.inl rfl) rfl (K _ _ (by simp [mq_ry, mq_op, mq_b2]))
    · rw [va, vb]
      refine br_f (by decide) (br_f (by decide) (br_f (by decide) (br_f (by decide) ?_)))
      exact my_push (by omega) (Or.inl rfl) rfl (K _ _ (by simp [mq_ry, mq_op, mq_b2]))
    · rw [va, vb]
      refine br_f (by decide) (br_t rfl ?_)
      exact my_push (by omega) (Or.inl rfl) rfl (K _ _ (by simp [mq_ry, mq_op, mq_b2]))
  · rcases mq_tcase hb tb with ⟨rfl, nb, vb⟩ | ⟨rfl, nb, vb⟩ | ⟨rfl, nb, vb⟩
    · rw [va, vb]
      refine br_t rfl ?_
      exact my_push (by omega) (Or.inl rfl) rfl (K _ _ (by simp [mq_ry, mq_op, mq_b2]))
    · rw [va, vb]
      refine br_t rfl ?_
      exact my_push (by omega) (Or.inl rfl) rfl (K _ _ (by simp [mq_ry, mq_op, mq_b2]))
    · rw [va, vb]
      refine br_t rfl ?_
      exact my_push (by omega) (Or.inl rfl) rfl (K _ _ (by simp [mq_ry, mq_op, mq_b2]))
theorem my_h32 {post : SY → Prop} {gr fu pp : Int32} {ce rc tk co ln : Nat → Int32} {nm : Nat → Int64} {nu gn : Nat → Int32} {gk gs : Nat → Int64} {p : Nat} (hp : p + 1 < 24) {a b c : Option Int64} (ha : mq_ry true (nu p) (nm p) a) (ta : mq_tt a)
    (K : ∀ x y, mq_ry true x y (mq_op 32 a b c) → post (nI (p + 1), gr, fu, pp, ce, rc, tk, co, ln, vp_updL nm p y, upd nu p x, gn, gk, gs)) : wpY_apply post (nI (p + 1), gr, fu, pp, ce, rc, tk, co, ln, nm, nu, gn, gk, gs) 32 := by
  refine my_pre1 (by decide) (by decide) hp (mq_n01 ha) ?_
  refine br_t (by decide) (br_f (by decide) (br_t (by decide) ?_))
  refine br_f (by decide) ?_
  refine br_f (by decide) ?_
  refine br_t rfl ?_
  rcases mq_tcase ha ta with ⟨rfl, na, va⟩ | ⟨rfl, na, va⟩ | ⟨rfl, na, va⟩
  · rw [va]
    refine br_t rfl ?_
    exact my_push (by omega) (Or.inl rfl) rfl (K _ _ (by simp [mq_ry, mq_op, mq_b2]))
  · rw [va]
    refine br_f (by decide) ?_
    exact my_push (by omega) (Or.inl rfl) rfl (K _ _ (by simp [mq_ry, mq_op, mq_b2]))
  · rw [va]
    refine br_f (by decide) ?_
    exact my_push (by omega) (Or.inl rfl) rfl (K _ _ (by simp [mq_ry, mq_op, mq_b2]))
theorem my_h33 {post : SY → Prop} {gr fu pp : Int32} {ce rc tk co ln : Nat → Int32} {nm : Nat → Int64} {nu gn : Nat → Int32} {gk gs : Nat → Int64} {p : Nat} (hp : p + 1 < 24) {a b c : Option Int64} (ha : mq_ry false (nu p) (nm p) a)
    (K : ∀ x y, mq_ry true x y (mq_op 33 a b c) → post (nI (p + 1), gr, fu, pp, ce, rc, tk, co, ln, vp_updL nm p y, upd nu p x, gn, gk, gs)) : wpY_apply post (nI (p + 1), gr, fu, pp, ce, rc, tk, co, ln, nm, nu, gn, gk, gs) 33 := by
  refine my_pre1 (by decide) (by decide) hp (mq_n01 ha) ?_
  refine br_t (by decide) (br_f (by decide) (br_t (by decide) ?_))
  refine br_f (by decide) ?_
  refine br_f (by decide) ?_
  refine br_f (by decide) ?_
  refine br_t rfl ?_
  rcases mq_ncase ha with ⟨rfl, na⟩ | ⟨rfl, na⟩
  · rw [na]
    refine br_f (by decide) ?_
    exact my_push (by omega) (Or.inl rfl) rfl (K _ _ (by simp [mq_ry, mq_op, mq_b2]))
  · rw [na]
    refine br_t rfl ?_
    exact my_push (by omega) (Or.inl rfl) rfl (K _ _ (by simp [mq_ry, mq_op, mq_b2]))
theorem my_h34 {post : SY → Prop} {gr fu pp : Int32} {ce rc tk co ln : Nat → Int32} {nm : Nat → Int64} {nu gn : Nat → Int32} {gk gs : Nat → Int64} {p : Nat} (hp : p + 3 < 24) {a b c : Option Int64} (ha : mq_ry true (nu (p + 2)) (nm (p + 2)) a) (ta : mq_tt a) (hb : mq_ry false (nu (p + 1)) (nm (p + 1)) b) (hc : mq_ry false (nu p) (nm p) c)
    (K : ∀ x y, mq_ry false x y (mq_op 34 a b c) → post (nI (p + 1), gr, fu, pp, ce, rc, tk, co, ln, vp_updL nm p y, upd nu p x, gn, gk, gs)) : wpY_apply post (nI (p + 3), gr, fu, pp, ce, rc, tk, co, ln, nm, nu, gn, gk, gs) 34 := by
  refine my_pre3 (by decide) (by decide) hp (mq_n01 hc) (mq_n01 hb) (mq_n01 ha) ?_
  refine br_t (by decide) (br_f (by decide) (br_t (by decide) ?_))
  refine br_f (by decide) ?_
  refine br_f (by decide) ?_
  refine br_f (by decide) ?_
  refine br_f (by decide) ?_
  rcases mq_tcase ha ta with ⟨rfl, na, va⟩ | ⟨rfl, na, va⟩ | ⟨rfl, na, va⟩
  · rcases mq_ncase hb with ⟨rfl, nb⟩ | ⟨rfl, nb⟩
    · rcases mq_ncase hc with ⟨rfl, nc⟩ | ⟨rfl, nc⟩
      · rw [va, nb, nc]
        refine br_f (by decide) ?_
        exact my_push (by omega) (Or.inr rfl) rfl (K _ _ (by simp [mq_ry, mq_op, mq_b2]))
      · rw [va, nb, nc]
        refine br_f (by decide) ?_
        exact my_push (by omega) (Or.inl rfl) rfl (K _ _ (by simp [mq_ry, mq_op, mq_b2]))
    · rcases mq_ncase hc with ⟨rfl, nc⟩ | ⟨rfl, nc⟩
      · rw [va, nb, nc]
        refine br_f (by decide) ?_
        exact my_push (by omega) (Or.inr rfl) rfl (K _ _ (by simp [mq_ry, mq_op, mq_b2]))
      · rw [va, nb, nc]
        refine br_f (by decide) ?_
        exact my_push (by omega) (Or.inl rfl) rfl (K _ _ (by simp [mq_ry, mq_op, mq_b2]))
  · rcases mq_ncase hb with ⟨rfl, nb⟩ | ⟨rfl, nb⟩
    · rcases mq_ncase hc with ⟨rfl, nc⟩ | ⟨rfl, nc⟩
      · rw [va, nb, nc]
        refine br_f (by decide) ?_
        exact my_push (by omega) (Or.inr rfl) rfl (K _ _ (by simp [mq_ry, mq_op, mq_b2]))
      · rw [va, nb, nc]
        refine br_f (by decide) ?_
        exact my_push (by omega) (Or.inl rfl) rfl (K _ _ (by simp [mq_ry, mq_op, mq_b2]))
    · rcases mq_ncase hc with ⟨rfl, nc⟩ | ⟨rfl, nc⟩
      · rw [va, nb, nc]
        refine br_f (by decide) ?_
        exact my_push (by omega) (Or.inr rfl) rfl (K _ _ (by simp [mq_ry, mq_op, mq_b2]))
      · rw [va, nb, nc]
        refine br_f (by decide) ?_
        exact my_push (by omega) (Or.inl rfl) rfl (K _ _ (by simp [mq_ry, mq_op, mq_b2]))
  · rcases mq_ncase hb with ⟨rfl, nb⟩ | ⟨rfl, nb⟩
    · rcases mq_ncase hc with ⟨rfl, nc⟩ | ⟨rfl, nc⟩
      · rw [va, nb, nc]
        refine br_t rfl ?_
        exact my_push (by omega) (Or.inr rfl) rfl (K _ _ (by simp [mq_ry, mq_op, mq_b2]))
      · rw [va, nb, nc]
        refine br_t rfl ?_
        exact my_push (by omega) (Or.inr rfl) rfl (K _ _ (by simp [mq_ry, mq_op, mq_b2]))
    · rcases mq_ncase hc with ⟨rfl, nc⟩ | ⟨rfl, nc⟩
      · rw [va, nb, nc]
        refine br_t rfl ?_
        exact my_push (by omega) (Or.inl rfl) rfl (K _ _ (by simp [mq_ry, mq_op, mq_b2]))
      · rw [va, nb, nc]
        refine br_t rfl ?_
        exact my_push (by omega) (Or.inl rfl) rfl (K _ _ (by simp [mq_ry, mq_op, mq_b2]))
end MQ13
