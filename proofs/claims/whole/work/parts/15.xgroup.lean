section MQ15
theorem mi_70 (a : Nat) : nI a * 7 + 0 = nI (a * 7) := by rw [mi_7]; exact mi_a (a * 7) 0
theorem mi_7k (a k : Nat) {x : Int32} (hx : x = nI k := by rfl) : nI a * 7 + x = nI (a * 7 + k) := by rw [mi_7, hx, nI_add]
theorem mx_cb {post : Int32 → Prop} {gc pc tm : Int32} {ce rc tk co ln ki : Nat → Int32} {nm : Nat → Int64} {nu pr : Nat → Int32} {fa : Nat → Int64} {k q : Option Int64} {g : Nat} (hg : g < 12) (h0 : fa (g * 7) = mq_kn k) (h1 : fa (g * 7 + 1) = mq_kv k) (K : post (mq_b1 (mq_lt k q))) : wpX_comesBefore post (gc, pc, tm, ce, rc, tk, co, ln, ki, nm, nu, pr, fa) (nI g) (mq_kb q) (mq_kv q) := by
  cases q with
  | none =>
    refine br_f (by decide) ?_
    cases k with
    | none => exact K
    | some x => exact K
  | some y =>
    refine br_t rfl ?_
    rw [mi_70, mi_7k g 1, nI_clamp (by omega), nI_clamp (by omega), h0, h1]
    refine ⟨vp_in_nI (by omega) (by decide), ?_⟩
    cases k with
    | none => exact br_t rfl K
    | some x =>
      refine br_f (by show ¬ (0 : Int64) = 1; decide) ⟨vp_in_nI (by omega) (by decide), ?_⟩
      by_cases c : y ≤ x
      · have e : mq_lt (some x) (some y) = false := decide_eq_false (Int64.not_lt.mpr c)
        rw [e] at K
        exact br_t c K
      · have e : mq_lt (some x) (some y) = true := decide_eq_true (Int64.not_le.mp c)
        rw [e] at K
        exact br_f c K
theorem mx_hk {post : Int32 → Prop} {gc pc tm : Int32} {ce rc tk co ln ki : Nat → Int32} {nm : Nat → Int64} {nu pr : Nat → Int32} {fa : Nat → Int64} {k q : Option Int64} {g : Nat} (hg : g < 12) (h0 : fa (g * 7) = mq_kn k) (h1 : fa (g * 7 + 1) = mq_kv k) (K1 : k = q → post 1) (K0 : ¬ k = q → post 0) : wpX_hasKey post (gc, pc, tm, ce, rc, tk, co, ln, ki, nm, nu, pr, fa) (nI g) (mq_kb q) (mq_kv q) := by
  have q21 : wX_hasKey_21 post (nI g) (mq_kb q) (mq_kv q) (mq_kb k) gc pc tm ce rc tk co ln ki nm nu pr fa := by
    have e1 : nI g * 7 + 1 = nI (g * 7 + 1) := mi_7k g 1
    have c1 : (nI (g * 7 + 1)).toNatClampNeg = g * 7 + 1 := nI_clamp (by omega)
    have i1 : vp_in (nI (g * 7 + 1)) 84 := vp_in_nI (by omega) (by decide)
    cases k with
    | none =>
      cases q with
      | none =>
        refine br_t rfl ?_
        rw [e1, c1, h1]
        exact ⟨i1, br_t rfl (K1 rfl)⟩
      | some y => exact br_f (by show ¬ (1 : Int32) = 0; decide) (K0 (fun z => nomatch z))
    | some x =>
      cases q with
      | none => exact br_f (by show ¬ (0 : Int32) = 1; decide) (K0 (fun z => nomatch z))
      | some y =>
        refine br_t rfl ?_
        rw [e1, c1, h1]
        refine ⟨i1, ?_⟩
        by_cases c : x = y
        · exact br_t c (K1 (congrArg some c))
        · exact br_f c (K0 (fun z => c (Option.some.inj z)))
  unfold wpX_hasKey
  dsimp only
  rw [mi_70, nI_clamp (by omega), h0]
  refine ⟨vp_in_nI (by omega) (by decide), ?_⟩
  cases k with
  | none => exact br_t rfl q21
  | some x => exact br_f (by show ¬ (0 : Int64) = 1; decide) q21
theorem mx_og50 {post : SX → Prop} {gc pc tm : Int32} {ce rc tk co ln ki : Nat → Int32} {nm : Nat → Int64} {nu pr : Nat → Int32} {fa : Nat → Int64} {p n : Nat} {q : Option Int64} (hp : p ≤ n) (hn : n < 12) (hgc : gc = nI n)
    (K : post (nI (n + 1), pc, tm, ce, rc, tk, co, ln, ki, nm, nu, pr, vp_updL (vp_updL (mq_xz fa (p * 7) 7) (p * 7) (mq_kn q)) (p * 7 + 1) (mq_kv q))) :
    ∀ d k, k + d = 7 → wX_openGroup_50 post (mq_kb q) (mq_kv q) (nI (p * 7)) gc pc tm (d + 1) (nI k) ce rc tk co ln ki nm nu pr (mq_xz fa (p * 7) k) := by
  intro d
  induction d with
  | zero =>
    intro k e
    have e : k = 7 := by omega
    subst e
    refine br_t (by decide) ?_
    have q91 : wX_openGroup_91 post (mq_kv q) (nI (p * 7)) (mq_kn q) (nI (p * 7) + 0) gc pc tm ce rc tk co ln ki nm nu pr (mq_xz fa (p * 7) 7) := by
      unfold wX_openGroup_91
      rw [mi_a (p * 7) 0, Nat.add_zero, nI_1, nI_clamp (by omega), nI_clamp (by omega), hgc, nI_1]
      exact ⟨vp_in_nI (by omega) (by decide), nm_e ⟨vp_in_nI (by omega) (by decide), nm_e (nm_e K)⟩⟩
    cases q with
    | none => exact br_f (by decide) q91
    | some y => exact br_t rfl q91
  | succ d ih =>
    intro k e
    refine br_f (nI_ge (b := 7) (by omega) (by decide)) ?_
    rw [nI_add, nI_clamp (by omega), mq_xz_s]
    exact ⟨vp_in_nI (by omega) (by decide), nm_e (nm_r (nI_1 k) (ih (k + 1) (by omega)))⟩
theorem mx_og17 {post : SX → Prop} {gc pc tm : Int32} {ce rc tk co ln ki : Nat → Int32} {nm : Nat → Int64} {nu pr : Nat → Int32} {fa : Nat → Int64} {p n : Nat} {q : Option Int64} (hp : p ≤ n) (hn : n < 12) (hgc : gc = nI n)
    (K : post (nI (n + 1), pc, tm, ce, rc, tk, co, ln, ki, nm, nu, pr, vp_updL (vp_updL (mq_xz (mq_xs fa (p * 7) (n * 7)) (p * 7) 7) (p * 7) (mq_kn q)) (p * 7 + 1) (mq_kv q))) :
    ∀ d f, f = p * 7 + d → f ≤ n * 7 → wX_openGroup_17 post (mq_kb q) (mq_kv q) (nI (p * 7)) gc pc tm (d + 1) (nI f + (-1)) ce rc tk co ln ki nm nu pr (mq_xs fa f (n * 7)) := by
  intro d
  induction d with
  | zero =>
    intro f e hf
    have e : f = p * 7 := by omega
    subst e
    refine br_t (mn_lt1 (by omega)) ⟨8, ?_⟩
    have h := mx_og50 (post := post) (gc := gc) (pc := pc) (tm := tm) (ce := ce) (rc := rc) (tk := tk) (co := co) (ln := ln) (ki := ki) (nm := nm) (nu := nu) (pr := pr) (fa := mq_xs fa (p * 7) (n * 7)) (q := q) hp hn hgc K 7 0 rfl
    rw [mq_xz_0] at h
    exact h
  | succ d ih =>
    intro f e hf
    obtain ⟨f, rfl⟩ : ∃ f', f = f' + 1 := ⟨f - 1, by omega⟩
    rw [pk_m1]
    refine br_f (nI_nlt (by omega) (by omega)) ?_
    rw [mi_a f 7, nI_clamp (by omega), nI_clamp (by omega), mq_xs_s (by omega)]
    exact ⟨vp_in_nI (by omega) (by decide), vp_in_nI (by omega) (by decide), nm_e (nm_e (ih f (by omega) (by omega)))⟩
theorem mx_og {post : SX → Prop} {gc pc tm : Int32} {ce rc tk co ln ki : Nat → Int32} {nm : Nat → Int64} {nu pr : Nat → Int32} {fa : Nat → Int64} {p n : Nat} {q : Option Int64} (hp : p ≤ n) (hn : n < 12) (hgc : gc = nI n)
    (K : post (nI (n + 1), pc, tm, ce, rc, tk, co, ln, ki, nm, nu, pr, vp_updL (vp_updL (mq_xz (mq_xs fa (p * 7) (n * 7)) (p * 7) 7) (p * 7) (mq_kn q)) (p * 7 + 1) (mq_kv q))) :
    wpX_openGroup post (gc, pc, tm, ce, rc, tk, co, ln, ki, nm, nu, pr, fa) (nI p) (mq_kb q) (mq_kv q) := by
  refine nm_r (mi_7 p) (nm_r (e' := nI (n * 7) + (-1)) (by rw [hgc, mi_7, mn_ns]) ⟨(n * 7 - p * 7) + 1, ?_⟩)
  have h := mx_og17 (post := post) (gc := gc) (pc := pc) (tm := tm) (ce := ce) (rc := rc) (tk := tk) (co := co) (ln := ln) (ki := ki) (nm := nm) (nu := nu) (pr := pr) (fa := fa) (q := q) hp hn hgc K (n * 7 - p * 7) (n * 7) (by omega) (Nat.le_refl _)
  rw [mq_xs_0] at h
  exact h
theorem mx_gw {post : Int32 → SX → Prop} {gc pc tm : Int32} {ce rc tk co ln ki : Nat → Int32} {nm : Nat → Int64} {nu pr : Nat → Int32} {fa : Nat → Int64} {n : Nat} {G : Nat → Option Int64} {q : Option Int64} (hn : n ≤ 12) (hgc : gc = nI n) (h0 : ∀ i, i < n → fa (i * 7) = mq_kn (G i) ∧ fa (i * 7 + 1) = mq_kv (G i))
    (K1 : mq_plc G q n < n ∧ G (mq_plc G q n) = q → post (nI (mq_plc G q n)) (gc, pc, tm, ce, rc, tk, co, ln, ki, nm, nu, pr, fa))
    (K2 : ¬ (mq_plc G q n < n ∧ G (mq_plc G q n) = q) → 12 ≤ n → post (-1) (gc, pc, tm, ce, rc, tk, co, ln, ki, nm, nu, pr, fa))
    (K3 : ¬ (mq_plc G q n < n ∧ G (mq_plc G q n) = q) → n < 12 → post (nI (mq_plc G q n)) (nI (n + 1), pc, tm, ce, rc, tk, co, ln, ki, nm, nu, pr, vp_updL (vp_updL (mq_xz (mq_xs fa (mq_plc G q n * 7) (n * 7)) (mq_plc G q n * 7) 7) (mq_plc G q n * 7) (mq_kn q)) (mq_plc G q n * 7 + 1) (mq_kv q))) :
    wpX_groupWithKey post (gc, pc, tm, ce, rc, tk, co, ln, ki, nm, nu, pr, fa) (mq_kb q) (mq_kv q) := by
  have hple := mq_plc_le G q n
  have q63 : ¬ (mq_plc G q n < n ∧ G (mq_plc G q n) = q) → wX_groupWithKey_63 post (mq_kb q) (mq_kv q) (nI n) (nI (mq_plc G q n)) gc pc tm ce rc tk co ln ki nm nu pr fa := by
    intro z
    by_cases h12 : n < 12
    · refine br_t (nI_lt (b := 12) h12 (by decide)) ?_
      exact mx_og hple h12 hgc (K3 z h12)
    · exact br_f (nI_nlt (b := 12) (by omega) (by omega)) (K2 z (by omega))
  have q12 : ∀ d i, i + d = n → wX_groupWithKey_12 post (mq_kb q) (mq_kv q) (nI n) gc pc tm ce rc tk co ln ki nm nu pr fa (d + 1) (nI (mq_plc G q i)) (nI i) := by
    intro d
    induction d with
    | zero =>
      intro i e
      have e : i = n := by omega
      subst e
      refine br_t (nI_le (Nat.le_refl _) (by omega)) ?_
      by_cases c : mq_plc G q i < i
      · refine br_f (nI_ge c (by omega)) ?_
        have hh := h0 (mq_plc G q i) c
        refine mx_hk (by omega) hh.1 hh.2 ?_ ?_
        · intro z
          exact br_f (by decide) (K1 ⟨c, z⟩)
        · intro z
          exact br_t rfl (q63 (fun y => z y.2))
      · exact br_t (nI_le (by omega) (by omega)) (q63 (fun y => c y.1))
    | succ d ih =>
      intro i e
      refine br_f (nI_ge (by omega) (by omega)) ?_
      have hh := h0 i (by omega)
      refine mx_cb (by omega) hh.1 hh.2 ?_
      have h1 := ih (i + 1) (by omega)
      have hs : mq_plc G q (i + 1) = if mq_lt (G i) q = true then i + 1 else mq_plc G q i := rfl
      cases hb : mq_lt (G i) q with
      | false =>
        rw [hs, hb, if_neg (by decide)] at h1
        exact br_t rfl (nm_r (nI_1 i) h1)
      | true =>
        rw [hs, hb, if_pos rfl] at h1
        exact br_f (by decide) (nm_r (nI_1 i) (nm_r (nI_1 i) h1))
  subst hgc
  exact ⟨n + 1, q12 n 0 (by omega)⟩
theorem mx_av {post : SX → Prop} {gc pc tm : Int32} {ce rc tk co ln ki : Nat → Int32} {nm : Nat → Int64} {nu pr : Nat → Int32} {fa : Nat → Int64} {p : Nat} {x : Int64} (hp : p < 12)
    (K : ∀ f, (∀ j, (j < p * 7 + 3 ∨ p * 7 + 7 ≤ j) → f j = fa j) → f (p * 7 + 3) = fa (p * 7 + 3) + 1 → f (p * 7 + 4) = fa (p * 7 + 4) + x →
      f (p * 7 + 5) = (if fa (p * 7 + 3) = 0 ∨ x < fa (p * 7 + 5) then x else fa (p * 7 + 5)) → f (p * 7 + 6) = (if fa (p * 7 + 3) = 0 ∨ fa (p * 7 + 6) < x then x else fa (p * 7 + 6)) → post (gc, pc, tm, ce, rc, tk, co, ln, ki, nm, nu, pr, f)) :
    wpX_addValue post (gc, pc, tm, ce, rc, tk, co, ln, ki, nm, nu, pr, fa) (nI p) x := by
  have e3 : nI (p * 7) + 3 = nI (p * 7 + 3) := mi_a (p * 7) 3
  have e4 : nI (p * 7) + 4 = nI (p * 7 + 4) := mi_a (p * 7) 4
  have e5 : nI (p * 7) + 5 = nI (p * 7 + 5) := mi_a (p * 7) 5
  have e6 : nI (p * 7) + 6 = nI (p * 7 + 6) := mi_a (p * 7) 6
  have c3 : (nI (p * 7 + 3)).toNatClampNeg = p * 7 + 3 := nI_clamp (by omega)
  have c4 : (nI (p * 7 + 4)).toNatClampNeg = p * 7 + 4 := nI_clamp (by omega)
  have c5 : (nI (p * 7 + 5)).toNatClampNeg = p * 7 + 5 := nI_clamp (by omega)
  have c6 : (nI (p * 7 + 6)).toNatClampNeg = p * 7 + 6 := nI_clamp (by omega)
  have i3 : vp_in (nI (p * 7 + 3)) 84 := vp_in_nI (by omega) (by decide)
  have i4 : vp_in (nI (p * 7 + 4)) 84 := vp_in_nI (by omega) (by decide)
  have i5 : vp_in (nI (p * 7 + 5)) 84 := vp_in_nI (by omega) (by decide)
  have i6 : vp_in (nI (p * 7 + 6)) 84 := vp_in_nI (by omega) (by decide)
  obtain ⟨z0, hz0, hz1⟩ : ∃ z0 : Int32, (z0 = 0 ↔ ¬ fa (p * 7 + 3) = 0) ∧ ((fa (p * 7 + 3) = 0 ∧ z0 = 1) ∨ (¬ fa (p * 7 + 3) = 0 ∧ z0 = 0)) := by
    by_cases c : fa (p * 7 + 3) = 0
    · exact ⟨1, ⟨fun z => absurd z (by decide), fun z => absurd c z⟩, Or.inl ⟨c, rfl⟩⟩
    · exact ⟨0, ⟨fun _ => c, fun _ => rfl⟩, Or.inr ⟨c, rfl⟩⟩
  have q82 : ∀ f, (∀ j, (j < p * 7 + 3 ∨ p * 7 + 6 ≤ j) → f j = fa j) → f (p * 7 + 3) = fa (p * 7 + 3) + 1 → f (p * 7 + 4) = fa (p * 7 + 4) + x →
      f (p * 7 + 5) = (if fa (p * 7 + 3) = 0 ∨ x < fa (p * 7 + 5) then x else fa (p * 7 + 5)) → wX_addValue_82 post x (nI (p * 7)) z0 gc pc tm ce rc tk co ln ki nm nu pr f := by
    intro f f0 f3 f4 f5
    have q102 : (fa (p * 7 + 3) = 0 ∨ fa (p * 7 + 6) < x) → wX_addValue_102 post x (nI (p * 7)) gc pc tm ce rc tk co ln ki nm nu pr f := by
      intro hc
      unfold wX_addValue_102
      rw [e6, c6]
      refine ⟨i6, nm_e (K _ ?_ ?_ ?_ ?_ ?_)⟩
      · intro j hj
        rw [pk_uLn (by omega)]
        exact f0 j (by omega)
      · rw [pk_uLn (by omega)]; exact f3
      · rw [pk_uLn (by omega)]; exact f4
      · rw [pk_uLn (by omega)]; exact f5
      · rw [pk_uLs, if_pos hc]
    by_cases cz : z0 = 0
    · refine br_t cz ?_
      rw [e6, c6, f0 (p * 7 + 6) (by omega)]
      refine ⟨i6, ?_⟩
      by_cases cl : x ≤ fa (p * 7 + 6)
      · refine br_t cl (K f (fun j hj => f0 j (by omega)) f3 f4 f5 ?_)
        rw [f0 (p * 7 + 6) (by omega), if_neg (fun z => z.elim (hz0.mp cz) (Int64.not_lt.mpr cl))]
      · exact br_f cl (q102 (Or.inr (Int64.not_le.mp cl)))
    · refine br_f cz (q102 (Or.inl ?_))
      exact hz1.elim (fun z => z.1) (fun z => absurd z.2 cz)
  have q25 : wX_addValue_25 post x (nI (p * 7)) z0 gc pc tm ce rc tk co ln ki nm nu pr fa := by
    unfold wX_addValue_25
    rw [e3, e4, e5, c3, c4, c5]
    refine ⟨i3, i3, nm_e ⟨i4, i4, nm_e ?_⟩⟩
    have q72 : (fa (p * 7 + 3) = 0 ∨ x < fa (p * 7 + 5)) → wX_addValue_72 post x (nI (p * 7)) z0 gc pc tm ce rc tk co ln ki nm nu pr (vp_updL (vp_updL fa (p * 7 + 3) (fa (p * 7 + 3) + 1)) (p * 7 + 4) (vp_updL fa (p * 7 + 3) (fa (p * 7 + 3) + 1) (p * 7 + 4) + x)) := by
      intro hc
      unfold wX_addValue_72
      rw [e5, c5]
      refine ⟨i5, nm_e (q82 _ ?_ ?_ ?_ ?_)⟩
      · intro j hj
        rw [pk_uLn (by omega), pk_uLn (by omega), pk_uLn (by omega)]
      · rw [pk_uLn (by omega), pk_uLn (by omega), pk_uLs]
      · rw [pk_uLn (by omega), pk_uLs, pk_uLn (by omega)]
      · rw [pk_uLs, if_pos hc]
    by_cases cz : z0 = 0
    · refine br_t cz ?_
      rw [pk_uLn (j := p * 7 + 5) (by omega), pk_uLn (j := p * 7 + 5) (by omega)]
      refine ⟨i5, ?_⟩
      by_cases cl : fa (p * 7 + 5) ≤ x
      · refine br_t cl (q82 _ ?_ ?_ ?_ ?_)
        · intro j hj
          rw [pk_uLn (by omega), pk_uLn (by omega)]
        · rw [pk_uLn (by omega), pk_uLs]
        · rw [pk_uLs, pk_uLn (by omega)]
        · rw [pk_uLn (by omega), pk_uLn (by omega), if_neg (fun z => z.elim (hz0.mp cz) (Int64.not_lt.mpr cl))]
      · exact br_f cl (q72 (Or.inr (Int64.not_le.mp cl)))
    · refine br_f cz (q72 (Or.inl ?_))
      exact hz1.elim (fun z => z.1) (fun z => absurd z.2 cz)
  refine nm_r (mi_7 p) ?_
  rw [e3, c3]
  refine ⟨i3, ?_⟩
  rcases hz1 with ⟨a, b⟩ | ⟨a, b⟩
  · rw [b] at q25
    exact br_t a q25
  · rw [b] at q25
    exact br_f a q25
end MQ15
