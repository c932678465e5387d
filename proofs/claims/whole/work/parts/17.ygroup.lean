section MQ17
theorem mq_kbv {a b : Option Int64} (h1 : mq_kb a = mq_kb b) (h2 : mq_kv a = mq_kv b) : a = b := by
  cases a with
  | none =>
    cases b with
    | none => rfl
    | some y => exact absurd h1 (by show ¬ (1 : Int32) = 0; decide)
  | some x =>
    cases b with
    | none => exact absurd h1 (by show ¬ (0 : Int32) = 1; decide)
    | some y => exact congrArg some h2
theorem mq_nkb (q : Option Int64) : vp_nar .boolean (mq_kb q) = mq_kb q := by
  cases q with
  | none => exact mn_b1
  | some x => exact mn_b0
theorem my_mg26 {post : SY → Prop} {tp gr fu pp : Int32} {ce rc tk co ln : Nat → Int32} {nm : Nat → Int64} {nu gn : Nat → Int32} {gk gs : Nat → Int64} {t : Nat} (ht : t + 1 < 12) (K : post (tp, gr, fu, pp, ce, rc, tk, co, ln, nm, nu, gn, gk, mq_m5 gs (t + 1) 5)) :
    ∀ d k, k + d = 5 → wY_moveGroup_26 post (nI t) (nI (t + 1)) tp gr fu pp (d + 1) (nI k) ce rc tk co ln nm nu gn gk (mq_m5 gs (t + 1) k) := by
  intro d
  induction d with
  | zero =>
    intro k e
    have e : k = 5 := by omega
    subst e
    exact br_t (by decide) K
  | succ d ih =>
    intro k e
    refine br_f (nI_ge (b := 5) (by omega) (by decide)) ?_
    rw [mi_5, mi_5, nI_clamp (by omega), nI_clamp (by omega), mq_m5_s (by omega)]
    exact ⟨vp_in_nI (by omega) (by decide), vp_in_nI (by omega) (by decide), nm_e (nm_r (nI_1 k) (ih (k + 1) (by omega)))⟩
theorem my_mg {post : SY → Prop} {tp gr fu pp : Int32} {ce rc tk co ln : Nat → Int32} {nm : Nat → Int64} {nu gn : Nat → Int32} {gk gs : Nat → Int64} {t : Nat} {q : Option Int64} (ht : t + 1 < 12) (hq : gn t = mq_kb q) (K : post (tp, gr, fu, pp, ce, rc, tk, co, ln, nm, nu, upd gn (t + 1) (gn t), vp_updL gk (t + 1) (gk t), mq_m5 gs (t + 1) 5)) :
    wpY_moveGroup post (tp, gr, fu, pp, ce, rc, tk, co, ln, nm, nu, gn, gk, gs) (nI t) (nI (t + 1)) := by
  unfold wpY_moveGroup
  dsimp only
  rw [nI_clamp (by omega), nI_clamp (by omega)]
  have e1 : vp_nar .boolean (gn t) = gn t := by rw [hq, mq_nkb]
  rw [e1]
  refine ⟨vp_in_nI (by omega) (by decide), vp_in_nI (by omega) (by decide), nm_e ⟨vp_in_nI (by omega) (by decide), vp_in_nI (by omega) (by decide), nm_e ⟨6, ?_⟩⟩⟩
  have h := my_mg26 (post := post) (tp := tp) (gr := gr) (fu := fu) (pp := pp) (ce := ce) (rc := rc) (tk := tk) (co := co) (ln := ln) (nm := nm) (nu := nu) (gn := upd gn (t + 1) (gn t)) (gk := vp_updL gk (t + 1) (gk t)) (gs := gs) ht K 5 0 rfl
  rw [mq_m5_0] at h
  exact h
theorem my_go141 {post : Int32 → SY → Prop} {tp gr fu pp : Int32} {ce rc tk co ln : Nat → Int32} {nm : Nat → Int64} {nu gn : Nat → Int32} {gk gs : Nat → Int64} {p : Nat} (hp : p < 12) (K : post (nI p) (tp, gr, fu, pp, ce, rc, tk, co, ln, nm, nu, gn, gk, mq_xz gs (5 * p) 5)) :
    ∀ d k, k + d = 5 → wY_groupOf_141 post (nI p) tp gr fu pp (d + 1) (nI k) ce rc tk co ln nm nu gn gk (mq_xz gs (5 * p) k) := by
  intro d
  induction d with
  | zero =>
    intro k e
    have e : k = 5 := by omega
    subst e
    exact br_t (by decide) K
  | succ d ih =>
    intro k e
    refine br_f (nI_ge (b := 5) (by omega) (by decide)) ?_
    rw [mi_5, nI_clamp (by omega), mq_xz_s]
    exact ⟨vp_in_nI (by omega) (by decide), nm_e (nm_r (nI_1 k) (ih (k + 1) (by omega)))⟩
theorem my_go112 {post : Int32 → SY → Prop} {tp gr fu pp : Int32} {ce rc tk co ln : Nat → Int32} {nm : Nat → Int64} {nu gn : Nat → Int32} {gk gs : Nat → Int64} {p n : Nat} {q : Option Int64} (hp : p < 12) (hgr : gr = nI n) (K : post (nI p) (tp, nI (n + 1), fu, pp, ce, rc, tk, co, ln, nm, nu, upd gn p (mq_kb q), vp_updL gk p (mq_kv q), mq_xz gs (5 * p) 5)) :
    wY_groupOf_112 post (mq_kb q) (mq_kv q) (nI p) tp gr fu pp ce rc tk co ln nm nu gn gk gs := by
  refine nm_r (e' := nI (n + 1)) (by rw [hgr, nI_1]) ?_
  rw [nI_clamp (by omega), mq_nkb]
  refine ⟨vp_in_nI hp (by decide), nm_e ⟨vp_in_nI hp (by decide), nm_e ⟨6, ?_⟩⟩⟩
  have h := my_go141 (post := post) (tp := tp) (gr := nI (n + 1)) (fu := fu) (pp := pp) (ce := ce) (rc := rc) (tk := tk) (co := co) (ln := ln) (nm := nm) (nu := nu) (gn := upd gn p (mq_kb q)) (gk := vp_updL gk p (mq_kv q)) (gs := gs) hp K 5 0 rfl
  rw [mq_xz_0] at h
  exact h
theorem my_go61 {post : Int32 → SY → Prop} {tp gr fu pp : Int32} {ce rc tk co ln : Nat → Int32} {nm : Nat → Int64} {nu gn : Nat → Int32} {gk gs : Nat → Int64} {n : Nat} {G : Nat → Option Int64} {q : Option Int64} (hn : n < 12) (hgr : gr = nI n) (hs : mq_srt n G) (h0 : ∀ i, i < n → gn i = mq_kb (G i) ∧ gk i = mq_kv (G i)) (hne : ∀ i, i < n → ¬ G i = q)
    (K : post (nI (mq_plc G q n)) (tp, nI (n + 1), fu, pp, ce, rc, tk, co, ln, nm, nu, upd (mq_sh gn (mq_plc G q n) n) (mq_plc G q n) (mq_kb q), vp_updL (mq_sh gk (mq_plc G q n) n) (mq_plc G q n) (mq_kv q), mq_xz (mq_s5 gs (mq_plc G q n) n) (5 * mq_plc G q n) 5)) :
    ∀ d a, a = mq_plc G q n + d → a ≤ n → wY_groupOf_61 post (mq_kb q) (mq_kv q) (d + 1) (nI a) tp gr fu pp ce rc tk co ln nm nu (mq_sh gn a n) (mq_sh gk a n) (mq_s5 gs a n) := by
  intro d
  induction d with
  | zero =>
    intro a ea ha
    have ea : a = mq_plc G q n := by omega
    have K112 : wY_groupOf_112 post (mq_kb q) (mq_kv q) (nI a) tp gr fu pp ce rc tk co ln nm nu (mq_sh gn a n) (mq_sh gk a n) (mq_s5 gs a n) := by
      subst ea
      exact my_go112 (by omega) hgr K
    by_cases a0 : a = 0
    · refine br_t ?_ K112
      rw [a0]
      decide
    · refine br_f (nI_nle (by omega) (by omega)) ?_
      rw [mn_s (by omega), nI_clamp (by omega), mq_sh_lo (by omega), mq_sh_lo (by omega), (h0 (a - 1) (by omega)).1, (h0 (a - 1) (by omega)).2]
      refine ⟨vp_in_nI (by omega) (by decide), ?_⟩
      have hlt := mq_plc_lo (q := q) n hs (a - 1) (by omega)
      cases hG : G (a - 1) with
      | none => exact br_f (by decide) K112
      | some x =>
        rw [hG] at hlt
        refine br_t rfl ?_
        cases q with
        | none => exact Bool.noConfusion hlt
        | some y =>
          have hxy : x < y := of_decide_eq_true hlt
          have hle : x ≤ y := by
            rw [Int64.lt_iff_toInt_lt] at hxy
            rw [Int64.le_iff_toInt_le]
            omega
          exact br_t rfl ⟨vp_in_nI (by omega) (by decide), br_t hle K112⟩
  | succ d ih =>
    intro a ea ha
    obtain ⟨a, rfl⟩ : ∃ a', a = a' + 1 := ⟨a - 1, by omega⟩
    have K96 : wY_groupOf_96 post (wY_groupOf_61 post (mq_kb q) (mq_kv q) (d + 1)) (mq_kb q) (mq_kv q) (nI (a + 1)) tp gr fu pp ce rc tk co ln nm nu (mq_sh gn (a + 1) n) (mq_sh gk (a + 1) n) (mq_s5 gs (a + 1) n) := by
      unfold wY_groupOf_96
      rw [nI_pred]
      refine my_mg (q := G a) (by omega) (by rw [mq_sh_lo (by omega)]; exact (h0 a (by omega)).1) ?_
      rw [mq_sh_s (by omega), mq_sh_sL (by omega), mq_m5_5 (by omega)]
      exact nm_r (pk_m1 a) (ih a (by omega) (by omega))
    refine br_f (nI_nle (by omega) (by omega)) ?_
    rw [nI_pred, nI_clamp (by omega), mq_sh_lo (by omega), mq_sh_lo (by omega), (h0 a (by omega)).1, (h0 a (by omega)).2]
    refine ⟨vp_in_nI (by omega) (by decide), ?_⟩
    have hge := mq_plc_hi (K := G) (q := q) n a (by omega) (by omega)
    have hlt := mq_lt_to (hne a (by omega)) hge
    cases hG : G a with
    | none =>
      rw [hG] at hlt
      cases q with
      | none => exact Bool.noConfusion hlt
      | some y => exact Bool.noConfusion hlt
    | some x =>
      rw [hG] at hlt
      refine br_t rfl ?_
      cases q with
      | none => exact br_f (by decide) K96
      | some y =>
        have hxy : y < x := of_decide_eq_true hlt
        refine br_t rfl ⟨vp_in_nI (by omega) (by decide), br_f ?_ K96⟩
        exact Int64.not_le.mpr hxy
theorem my_go {post : Int32 → SY → Prop} {tp gr fu pp : Int32} {ce rc tk co ln : Nat → Int32} {nm : Nat → Int64} {nu gn : Nat → Int32} {gk gs : Nat → Int64} {n : Nat} {G : Nat → Option Int64} {q : Option Int64} (hn : n ≤ 12) (hgr : gr = nI n) (hs : mq_srt n G) (h0 : ∀ i, i < n → gn i = mq_kb (G i) ∧ gk i = mq_kv (G i))
    (K1 : mq_plc G q n < n ∧ G (mq_plc G q n) = q → post (nI (mq_plc G q n)) (tp, gr, fu, pp, ce, rc, tk, co, ln, nm, nu, gn, gk, gs))
    (K2 : ¬ (mq_plc G q n < n ∧ G (mq_plc G q n) = q) → 12 ≤ n → post (-1) (tp, gr, fu, pp, ce, rc, tk, co, ln, nm, nu, gn, gk, gs))
    (K3 : ¬ (mq_plc G q n < n ∧ G (mq_plc G q n) = q) → n < 12 → post (nI (mq_plc G q n)) (tp, nI (n + 1), fu, pp, ce, rc, tk, co, ln, nm, nu, upd (mq_sh gn (mq_plc G q n) n) (mq_plc G q n) (mq_kb q), vp_updL (mq_sh gk (mq_plc G q n) n) (mq_plc G q n) (mq_kv q), mq_xz (mq_s5 gs (mq_plc G q n) n) (5 * mq_plc G q n) 5)) :
    wpY_groupOf post (tp, gr, fu, pp, ce, rc, tk, co, ln, nm, nu, gn, gk, gs) (mq_kb q) (mq_kv q) := by
  have hple := mq_plc_le G q n
  have q3 : ∀ d i, i + d = n → (∀ j, j < i → ¬ G j = q) → wY_groupOf_3 post (mq_kb q) (mq_kv q) tp (nI n) fu pp ce rc tk co ln nm nu gn gk gs (d + 1) (nI i) := by
    subst hgr
    intro d
    induction d with
    | zero =>
      intro i e hall
      have e : i = n := by omega
      subst e
      refine br_t (nI_le (Nat.le_refl _) (by omega)) ?_
      have hz : ¬ (mq_plc G q i < i ∧ G (mq_plc G q i) = q) := fun z => hall _ z.1 z.2
      by_cases c : i = 12
      · exact br_t (by rw [c]; rfl) (K2 hz (by omega))
      · refine br_f (fun z => c ((nI_eq (b := 12) (by omega) (by decide)).mp z)) ⟨(i - mq_plc G q i) + 1, ?_⟩
        have h := my_go61 (post := post) (tp := tp) (gr := nI i) (fu := fu) (pp := pp) (ce := ce) (rc := rc) (tk := tk) (co := co) (ln := ln) (nm := nm) (nu := nu) (gn := gn) (gk := gk) (gs := gs) (by omega) rfl hs h0 hall (K3 hz (by omega)) (i - mq_plc G q i) i (by omega) (Nat.le_refl _)
        rw [mq_sh_0, mq_sh_0, mq_s5_0] at h
        exact h
    | succ d ih =>
      intro i e hall
      refine br_f (nI_ge (by omega) (by omega)) ?_
      rw [nI_clamp (by omega), (h0 i (by omega)).1, (h0 i (by omega)).2]
      refine ⟨vp_in_nI (by omega) (by decide), ?_⟩
      have hnext : ¬ G i = q → wY_groupOf_3 post (mq_kb q) (mq_kv q) tp (nI n) fu pp ce rc tk co ln nm nu gn gk gs (d + 1) (nI (i + 1)) := by
        intro z
        refine ih (i + 1) (by omega) ?_
        intro j hj
        by_cases ej : j = i
        · rw [ej]; exact z
        · exact hall j (by omega)
      by_cases c1 : mq_kb (G i) = mq_kb q
      · refine br_t c1 ⟨vp_in_nI (by omega) (by decide), ?_⟩
        by_cases c2 : mq_kv (G i) = mq_kv q
        · have eq : G i = q := mq_kbv c1 c2
          have ep := mq_plc_eq hs (by omega : i < n) eq
          rw [ep] at K1
          exact br_t c2 (K1 ⟨by omega, eq⟩)
        · exact br_f c2 (nm_r (nI_1 i) (hnext (fun z => c2 (by rw [z]))))
      · exact br_f c1 (nm_r (nI_1 i) (hnext (fun z => c1 (by rw [z]))))
  have h := q3 n 0 (by omega) (fun j hj => absurd hj (Nat.not_lt_zero j))
  subst hgr
  exact ⟨n + 1, h⟩
theorem my_127 {post : SY → Prop} {tp gr fu pp : Int32} {ce rc tk co ln : Nat → Int32} {nm : Nat → Int64} {nu gn : Nat → Int32} {gk gs : Nat → Int64} {p : Nat} {x : Int64} {z0 : Int32} (hp : p < 12) (hz0 : z0 = 0 ↔ ¬ gs (5 * p + 1) = 0)
    (K : ∀ f, (∀ j, (j < 5 * p + 1 ∨ 5 * p + 5 ≤ j) → f j = gs j) → f (5 * p + 1) = gs (5 * p + 1) + 1 → f (5 * p + 2) = gs (5 * p + 2) + x →
      f (5 * p + 3) = (if gs (5 * p + 1) = 0 ∨ x < gs (5 * p + 3) then x else gs (5 * p + 3)) → f (5 * p + 4) = (if gs (5 * p + 1) = 0 ∨ gs (5 * p + 4) < x then x else gs (5 * p + 4)) → post (tp, gr, fu, pp, ce, rc, tk, co, ln, nm, nu, gn, gk, f)) :
    wY_pair_127 post (nI p) x z0 tp gr fu pp ce rc tk co ln nm nu gn gk gs := by
  have e1 : 5 * nI p + 1 = nI (5 * p + 1) := by rw [mi_5', nI_1]
  have e2 : 5 * nI p + 2 = nI (5 * p + 2) := by rw [mi_5']; exact mi_a (5 * p) 2
  have e3 : 5 * nI p + 3 = nI (5 * p + 3) := by rw [mi_5']; exact mi_a (5 * p) 3
  have e4 : 5 * nI p + 4 = nI (5 * p + 4) := by rw [mi_5']; exact mi_a (5 * p) 4
  have c1 : (nI (5 * p + 1)).toNatClampNeg = 5 * p + 1 := nI_clamp (by omega)
  have c2 : (nI (5 * p + 2)).toNatClampNeg = 5 * p + 2 := nI_clamp (by omega)
  have c3 : (nI (5 * p + 3)).toNatClampNeg = 5 * p + 3 := nI_clamp (by omega)
  have c4 : (nI (5 * p + 4)).toNatClampNeg = 5 * p + 4 := nI_clamp (by omega)
  have i1 : vp_in (nI (5 * p + 1)) 60 := vp_in_nI (by omega) (by decide)
  have i2 : vp_in (nI (5 * p + 2)) 60 := vp_in_nI (by omega) (by decide)
  have i3 : vp_in (nI (5 * p + 3)) 60 := vp_in_nI (by omega) (by decide)
  have i4 : vp_in (nI (5 * p + 4)) 60 := vp_in_nI (by omega) (by decide)
  have hz1 : ¬ z0 = 0 → gs (5 * p + 1) = 0 := fun c => Classical.byContradiction (fun z => c (hz0.mpr z))
  have q191 : ∀ f, (∀ j, (j < 5 * p + 1 ∨ 5 * p + 4 ≤ j) → f j = gs j) → f (5 * p + 1) = gs (5 * p + 1) + 1 → f (5 * p + 2) = gs (5 * p + 2) + x →
      f (5 * p + 3) = (if gs (5 * p + 1) = 0 ∨ x < gs (5 * p + 3) then x else gs (5 * p + 3)) → wY_pair_191 post (nI p) x z0 tp gr fu pp ce rc tk co ln nm nu gn gk f := by
    intro f f0 f1 f2 f3
    have q212 : (gs (5 * p + 1) = 0 ∨ gs (5 * p + 4) < x) → wY_pair_212 post (nI p) x tp gr fu pp ce rc tk co ln nm nu gn gk f := by
      intro hc
      unfold wY_pair_212
      rw [e4, c4]
      refine ⟨i4, nm_e (K _ ?_ ?_ ?_ ?_ ?_)⟩
      · intro j hj
        rw [pk_uLn (by omega)]
        exact f0 j (by omega)
      · rw [pk_uLn (by omega)]; exact f1
      · rw [pk_uLn (by omega)]; exact f2
      · rw [pk_uLn (by omega)]; exact f3
      · rw [pk_uLs, if_pos hc]
    by_cases cz : z0 = 0
    · refine br_t cz ?_
      rw [e4, c4, f0 (5 * p + 4) (by omega)]
      refine ⟨i4, ?_⟩
      by_cases cl : x ≤ gs (5 * p + 4)
      · refine br_t cl (K f (fun j hj => f0 j (by omega)) f1 f2 f3 ?_)
        rw [f0 (5 * p + 4) (by omega), if_neg (fun z => z.elim (hz0.mp cz) (Int64.not_lt.mpr cl))]
      · exact br_f cl (q212 (Or.inr (Int64.not_le.mp cl)))
    · exact br_f cz (q212 (Or.inl (hz1 cz)))
  unfold wY_pair_127
  rw [e1, e2, e3, c1, c2, c3]
  refine ⟨i1, i1, nm_e ⟨i2, i2, nm_e ?_⟩⟩
  have q179 : (gs (5 * p + 1) = 0 ∨ x < gs (5 * p + 3)) → wY_pair_179 post (nI p) x z0 tp gr fu pp ce rc tk co ln nm nu gn gk (vp_updL (vp_updL gs (5 * p + 1) (gs (5 * p + 1) + 1)) (5 * p + 2) (vp_updL gs (5 * p + 1) (gs (5 * p + 1) + 1) (5 * p + 2) + x)) := by
    intro hc
    unfold wY_pair_179
    rw [e3, c3]
    refine ⟨i3, nm_e (q191 _ ?_ ?_ ?_ ?_)⟩
    · intro j hj
      rw [pk_uLn (by omega), pk_uLn (by omega), pk_uLn (by omega)]
    · rw [pk_uLn (by omega), pk_uLn (by omega), pk_uLs]
    · rw [pk_uLn (by omega), pk_uLs, pk_uLn (by omega)]
    · rw [pk_uLs, if_pos hc]
  by_cases cz : z0 = 0
  · refine br_t cz ?_
    rw [pk_uLn (j := 5 * p + 3) (by omega), pk_uLn (j := 5 * p + 3) (by omega)]
    refine ⟨i3, ?_⟩
    by_cases cl : gs (5 * p + 3) ≤ x
    · refine br_t cl (q191 _ ?_ ?_ ?_ ?_)
      · intro j hj
        rw [pk_uLn (by omega), pk_uLn (by omega)]
      · rw [pk_uLn (by omega), pk_uLs]
      · rw [pk_uLs, pk_uLn (by omega)]
      · rw [pk_uLn (by omega), pk_uLn (by omega), if_neg (fun z => z.elim (hz0.mp cz) (Int64.not_lt.mpr cl))]
    · exact br_f cl (q179 (Or.inr (Int64.not_le.mp cl)))
  · exact br_f cz (q179 (Or.inl (hz1 cz)))
end MQ17
