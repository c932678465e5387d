section MQ18
variable {n : Nat → Nat} {D : Nat → Nat → Int32} {m : Nat → Nat} {T C : Nat → Nat → Int32} {s : MqG}
theorem my_n16 {u : SY} (H : mq_YR n D m T C s u) : ∀ t, t < 2 → n t ≤ 16 := by
  obtain ⟨tp, gr, fu, pp, ce, rc, tk, co, ln, nm, nu, gn, gk, gs⟩ := u
  exact fun t ht => (H.1.1 t ht).1
theorem my_c1 {ce rc : Nat → Int32} (HT : mq_TY n D ce rc) {i : Nat} (hi : i < n 0) (jo : Option Nat) : ∀ c, c < 3 → ce (3 * i + c) = mq_P D i jo c := by
  intro c hc
  have e1 : c / 3 = 0 := by omega
  have e2 : c % 3 = c := by omega
  have h := HT.2 c (by omega) i (by rw [e1]; exact hi)
  rw [e1, e2] at h
  unfold mq_P
  rw [if_pos hc, ← h]
  exact congrArg ce (by omega)
theorem my_c2 {ce rc : Nat → Int32} (HT : mq_TY n D ce rc) (i : Nat) {jo : Option Nat} {x : Int32} (hx : mq_jx n jo x) :
    (∃ j, j < 16 ∧ x = nI j ∧ ∀ c, 3 ≤ c → c < 6 → ce (48 + 3 * j + c - 3) = mq_P D i jo c) ∨ (x = -1 ∧ ∀ c, 3 ≤ c → c < 6 → mq_P D i jo c = -2147483648) := by
  rcases hx with ⟨j, hj, ej, ex⟩ | ⟨ej, ex⟩
  · have h16 := (HT.1 1 (by decide)).1
    refine Or.inl ⟨j, by omega, ex, ?_⟩
    intro c c3 c6
    have e1 : c / 3 = 1 := by omega
    have e2 : c % 3 = c - 3 := by omega
    have h := HT.2 c c6 j (by rw [e1]; exact hj)
    rw [e1, e2] at h
    unfold mq_P
    rw [if_neg (by omega), ej]
    show ce (48 + 3 * j + c - 3) = D c j
    rw [← h]
    exact congrArg ce (by omega)
  · refine Or.inr ⟨ex, ?_⟩
    intro c c3 c6
    unfold mq_P
    rw [if_neg (by omega), ej]
theorem my_62 {post : SY → Prop} {tp gr fu pp : Int32} {ce rc tk co ln : Nat → Int32} {nm : Nat → Int64} {nu gn : Nat → Int32} {gk gs : Nat → Int64} {i p : Nat} {jo : Option Nat} {x c : Int32} {s1 : MqG} (hE : mq_EI m T) (HT : mq_TY n D ce rc) (HE : mq_EX m T C tk co ln) (HF : mq_FY s1 gn gk gs) (hgr : gr = nI s1.1) (hpp : pp = c) (hfu : fu = mq_bi s1.2.2.2.1) (hi : i < n 0) (hx : mq_jx n jo x) (hp : p < 12)
    (K : ∀ u', mq_YR n D m T C (s1.1, s1.2.1, (if s1.2.2.2.1 = true then s1.2.2.1 else mq_upS p (mq_ev (T 1) (C 1) (mq_P D i jo) (m 1)) s1.2.2.1), s1.2.2.2.1, c) u' → post u') :
    wY_pair_62 post (nI i) x (nI p) tp gr fu pp ce rc tk co ln nm nu gn gk gs := by
  have h16 := (HT.1 0 (by decide)).1
  cases hb : s1.2.2.2.1 with
  | true =>
    refine br_f (by rw [hfu, hb]; decide) (K _ ⟨HT, HE, ?_, hgr, hpp, hfu⟩)
    rw [if_pos hb]
    exact HF
  | false =>
    refine br_t (by rw [hfu, hb]; rfl) ?_
    refine my_ev (e := 1) (P := mq_P D i jo) HE (by decide) (hE.1 1 (by decide)) hE.2.2.1 (by omega) (my_c1 HT hi jo) (my_c2 HT i hx) ?_
    intro tp nm nu hv _
    have c0 : (nI (5 * p)).toNatClampNeg = 5 * p := nI_clamp (by omega)
    have i0 : vp_in (nI (5 * p)) 60 := vp_in_nI (by omega) (by decide)
    have c1 : (nI (5 * p + 1)).toNatClampNeg = 5 * p + 1 := nI_clamp (by omega)
    have i1 : vp_in (nI (5 * p + 1)) 60 := vp_in_nI (by omega) (by decide)
    dsimp only
    rw [mi_5', c0]
    refine ⟨i0, i0, nm_e ?_⟩
    generalize mq_ev (T 1) (C 1) (mq_P D i jo) (m 1) = v at hv K
    rcases mq_ncase hv with ⟨rfl, h1⟩ | ⟨rfl, h1⟩
    · refine br_f (by rw [h1]; decide) (K _ ⟨HT, HE, ?_, hgr, hpp, hfu⟩)
      refine mq_fy_up HF hb ?_ ?_
      · intro j hj
        exact pk_uLn (by omega)
      · intro j hj
        show _ = (if j = 0 then gs (5 * p + 0) + 1 else gs (5 * p + j))
        by_cases j0 : j = 0
        · subst j0
          rw [if_pos rfl, Nat.add_zero, pk_uLs]
        · rw [if_neg j0, pk_uLn (by omega)]
    · refine br_t h1 (nm_e ?_)
      rw [nI_1, c1, pk_uLn (j := 5 * p + 1) (by omega)]
      refine ⟨i1, ?_⟩
      have q127 : ∀ z0 : Int32, (z0 = 0 ↔ ¬ gs (5 * p + 1) = 0) → wY_pair_127 post (nI p) (nm 0) z0 tp gr fu pp ce rc tk co ln nm nu gn gk (vp_updL gs (5 * p) (gs (5 * p) + 1)) := by
        intro z0 hz0
        refine my_127 hp (by rw [pk_uLn (by omega)]; exact hz0) ?_
        intro f f0 f1 f2 f3 f4
        rw [pk_uLn (j := 5 * p + 1) (by omega)] at f1 f3 f4
        rw [pk_uLn (j := 5 * p + 2) (by omega)] at f2
        rw [pk_uLn (j := 5 * p + 3) (by omega)] at f3
        rw [pk_uLn (j := 5 * p + 4) (by omega)] at f4
        refine K _ ⟨HT, HE, ?_, hgr, hpp, hfu⟩
        refine mq_fy_up HF hb ?_ ?_
        · intro j hj
          rw [f0 j (by omega)]
          exact pk_uLn (by omega)
        · intro j hj
          show f (5 * p + j) = (if j = 0 then gs (5 * p + 0) + 1 else if j = 1 then gs (5 * p + 1) + 1 else if j = 2 then gs (5 * p + 2) + nm 0 else if j = 3 then (if gs (5 * p + 1) = 0 ∨ nm 0 < gs (5 * p + 3) then nm 0 else gs (5 * p + 3)) else if j = 4 then (if gs (5 * p + 1) = 0 ∨ gs (5 * p + 4) < nm 0 then nm 0 else gs (5 * p + 4)) else gs (5 * p + j))
          by_cases j0 : j = 0
          · subst j0
            rw [if_pos rfl, f0 (5 * p + 0) (by omega)]
            exact pk_uLs
          · rw [if_neg j0]
            by_cases j1 : j = 1
            · subst j1
              rw [if_pos rfl]
              exact f1
            · rw [if_neg j1]
              by_cases j2 : j = 2
              · subst j2
                rw [if_pos rfl]
                exact f2
              · rw [if_neg j2]
                by_cases j3 : j = 3
                · subst j3
                  rw [if_pos rfl]
                  exact f3
                · have j4 : j = 4 := by omega
                  subst j4
                  rw [if_neg j3, if_pos rfl]
                  exact f4
      by_cases c2 : gs (5 * p + 1) = 0
      · exact br_t c2 (q127 1 ⟨fun z => absurd z (by decide), fun z => absurd c2 z⟩)
      · exact br_f c2 (q127 0 ⟨fun _ => c2, fun _ => rfl⟩)
theorem my_gcall {post : SY → Prop} {tp gr fu pp : Int32} {ce rc tk co ln : Nat → Int32} {nm : Nat → Int64} {nu gn : Nat → Int32} {gk gs : Nat → Int64} {i : Nat} {jo : Option Nat} {x : Int32} {q : Option Int64} (hE : mq_EI m T) (hs : mq_gi s) (HT : mq_TY n D ce rc) (HE : mq_EX m T C tk co ln) (HF : mq_FY s gn gk gs) (hgr : gr = nI s.1) (hpp : pp = s.2.2.2.2 + 1) (hfu : fu = mq_bi s.2.2.2.1) (hi : i < n 0) (hx : mq_jx n jo x)
    (K : ∀ u', mq_YR n D m T C (mq_hit q (mq_ev (T 1) (C 1) (mq_P D i jo) (m 1)) s) u' → post u') :
    wpY_groupOf (fun r u => match u with | (tp, gr, fu, pp, ce, rc, tk, co, ln, nm, nu, gn, gk, gs) => ((0 ≤ r → (wY_pair_62 post (nI i) x r tp gr fu pp ce rc tk co ln nm nu gn gk gs)) ∧ (¬ 0 ≤ r → (wY_pair_62 post (nI i) x r tp gr 1 pp ce rc tk co ln nm nu gn gk gs)))) (tp, gr, fu, pp, ce, rc, tk, co, ln, nm, nu, gn, gk, gs) (mq_kb q) (mq_kv q) := by
  obtain ⟨g, G, S, b, cc⟩ := s
  obtain ⟨h12, hsrt⟩ := hs
  have h12 : g ≤ 12 := h12
  have hple := mq_plc_le G q g
  refine my_go (n := g) (G := G) (q := q) h12 hgr hsrt (fun i hi => ⟨(HF i hi).1, (HF i hi).2.1⟩) ?_ ?_ ?_
  · intro hf
    refine br_t (nI_pos' (by omega)) ?_
    refine my_62 (s1 := (g, G, S, b, cc)) (c := cc + 1) hE HT HE HF hgr hpp hfu hi hx (by omega) ?_
    intro u' hu
    refine K u' ?_
    unfold mq_hit
    dsimp only
    rw [if_pos hf]
    exact hu
  · intro hf hg
    refine br_f (by decide) ?_
    refine br_f (by decide) (K _ ?_)
    unfold mq_hit
    dsimp only
    rw [if_neg hf, if_pos hg]
    exact ⟨HT, HE, fun i hi => ⟨(HF i hi).1, (HF i hi).2.1, fun z => Bool.noConfusion z⟩, hgr, hpp, rfl⟩
  · intro hf hg
    refine br_t (nI_pos' (by omega)) ?_
    refine my_62 (s1 := (g + 1, mq_ins G (mq_plc G q g) q, mq_ins S (mq_plc G q g) (fun _ => 0), b, cc)) (c := cc + 1) hE HT HE (mq_fy_in HF hple) rfl hpp hfu hi hx (by omega) ?_
    intro u' hu
    refine K u' ?_
    unfold mq_hit
    dsimp only
    rw [if_neg hf, if_neg (by omega)]
    exact hu
theorem my_pair {post : SY → Prop} {u : SY} (hE : mq_EI m T) (hs : mq_gi s) (H : mq_YR n D m T C s u) {i : Nat} (hi : i < n 0) {jo : Option Nat} {x : Int32} (hx : mq_jx n jo x)
    (K : ∀ u', mq_YR n D m T C (mq_q m T C (mq_P D i jo) s) u' → post u') : wpY_pair post u (nI i) x := by
  have h16 := my_n16 H 0 (by decide)
  obtain ⟨tp, gr, fu, pp, ce, rc, tk, co, ln, nm, nu, gn, gk, gs⟩ := u
  obtain ⟨HT, HE, HF, hgr, hpp, hfu⟩ := H
  unfold wpY_pair
  dsimp only
  refine my_ev (e := 0) (P := mq_P D i jo) HE (by decide) (hE.1 0 (by decide)) hE.2.1 (by omega) (my_c1 HT hi jo) (my_c2 HT i hx) ?_
  intro tp nm nu hv htt
  have htt := htt rfl
  dsimp only
  unfold mq_q mq_pair at K
  generalize mq_ev (T 0) (C 0) (mq_P D i jo) (m 0) = v at hv K htt
  rcases mq_tcase hv htt with ⟨rfl, _, h2⟩ | ⟨rfl, _, h2⟩ | ⟨rfl, _, h2⟩
  · rw [if_neg (fun z => nomatch z)] at K
    exact br_f (by rw [h2]; decide) (K _ ⟨HT, HE, HF, hgr, hpp, hfu⟩)
  · rw [if_neg (by decide)] at K
    exact br_f (by rw [h2]; decide) (K _ ⟨HT, HE, HF, hgr, hpp, hfu⟩)
  · rw [if_pos rfl] at K
    refine br_t h2 (nm_e ?_)
    refine my_ev (e := 2) (P := mq_P D i jo) HE (by decide) (hE.1 2 (by decide)) hE.2.2.2 (by omega) (my_c1 HT hi jo) (my_c2 HT i hx) ?_
    intro tp nm nu hv _
    dsimp only
    generalize mq_ev (T 2) (C 2) (mq_P D i jo) (m 2) = q at hv K
    have hq : nu 0 = mq_kb q ∧ nm 0 = mq_kv q := by
      cases q with
      | none => exact ⟨hv.1, hv.2⟩
      | some y => exact ⟨hv.1, hv.2⟩
    rw [hq.1, hq.2]
    exact my_gcall hE hs HT HE HF hgr (by rw [hpp]) hfu hi hx K
/-! a row, and all rows -/
theorem my_155 {post : Int32 → SY → Prop} {J : Int32 → Int32 → Int32 → Int32 → Int32 → (Nat → Int32) → (Nat → Int32) → (Nat → Int32) → (Nat → Int32) → (Nat → Int32) → (Nat → Int64) → (Nat → Int32) → (Nat → Int32) → (Nat → Int64) → (Nat → Int64) → Prop} {u : SY} {x1 x2 x3 : Int32} (hE : mq_EI m T) (hs : mq_gi s) (H : mq_YR n D m T C s u) {i : Nat} (hi : i < n 0)
    (K : ∀ u', mq_YR n D m T C (mq_q m T C (mq_P D i none) s) u' → (fun (u : SY) => match u with | (tp, gr, fu, pp, ce, rc, tk, co, ln, nm, nu, gn, gk, gs) => J (nI (i + 1)) tp gr fu pp ce rc tk co ln nm nu gn gk gs) u') : (fun (u : SY) => match u with | (tp, gr, fu, pp, ce, rc, tk, co, ln, nm, nu, gn, gk, gs) => wY_run_155 post J x1 x2 x3 (nI i) tp gr fu pp ce rc tk co ln nm nu gn gk gs) u := by
  obtain ⟨tp, gr, fu, pp, ce, rc, tk, co, ln, nm, nu, gn, gk, gs⟩ := u
  dsimp only
  unfold wY_run_155
  refine my_pair hE hs H hi (jo := none) (Or.inr ⟨rfl, rfl⟩) ?_
  intro u' hu
  have h := K u' hu
  obtain ⟨tp, gr, fu, pp, ce, rc, tk, co, ln, nm, nu, gn, gk, gs⟩ := u'
  exact nm_r (nI_1 i) h
theorem my_141 {post : Int32 → SY → Prop} {J : Int32 → Int32 → Int32 → Int32 → Int32 → (Nat → Int32) → (Nat → Int32) → (Nat → Int32) → (Nat → Int32) → (Nat → Int32) → (Nat → Int64) → (Nat → Int32) → (Nat → Int32) → (Nat → Int64) → (Nat → Int64) → Prop} {u : SY} {x2 x3 : Int32} (hE : mq_EI m T) (hs : mq_gi s) (H : mq_YR n D m T C s u) {i mo : Nat} (hi : i < n 0) (hmo : mo < 3) {b : Bool}
    (K : ∀ u', mq_YR n D m T C (if mo = 1 ∨ (mo = 2 ∧ b = true) then s else mq_q m T C (mq_P D i none) s) u' → (fun (u : SY) => match u with | (tp, gr, fu, pp, ce, rc, tk, co, ln, nm, nu, gn, gk, gs) => J (nI (i + 1)) tp gr fu pp ce rc tk co ln nm nu gn gk gs) u') : (fun (u : SY) => match u with | (tp, gr, fu, pp, ce, rc, tk, co, ln, nm, nu, gn, gk, gs) => wY_run_141 post J (nI mo) x2 x3 (nI i) (mq_b1 b) tp gr fu pp ce rc tk co ln nm nu gn gk gs) u := by
  by_cases c0 : mo = 0
  · rw [if_neg (by omega)] at K
    have h := my_155 (post := post) (J := J) (x1 := nI mo) (x2 := x2) (x3 := x3) hE hs H hi K
    obtain ⟨tp, gr, fu, pp, ce, rc, tk, co, ln, nm, nu, gn, gk, gs⟩ := u
    exact br_t (by rw [c0]; rfl) h
  · by_cases c2 : mo = 2
    · cases b with
      | true =>
        rw [if_pos (Or.inr ⟨c2, rfl⟩)] at K
        have h := K u H
        obtain ⟨tp, gr, fu, pp, ce, rc, tk, co, ln, nm, nu, gn, gk, gs⟩ := u
        exact br_f (nI_ne0 (by omega) (by omega)) (br_t (by rw [c2]; rfl) (br_f (by decide) (nm_r (nI_1 i) h)))
      | false =>
        rw [if_neg (fun z => z.elim (fun y => by omega) (fun y => nomatch y.2))] at K
        have h := my_155 (post := post) (J := J) (x1 := nI mo) (x2 := x2) (x3 := x3) hE hs H hi K
        obtain ⟨tp, gr, fu, pp, ce, rc, tk, co, ln, nm, nu, gn, gk, gs⟩ := u
        exact br_f (nI_ne0 (by omega) (by omega)) (br_t (by rw [c2]; rfl) (br_t rfl h))
    · rw [if_pos (Or.inl (by omega))] at K
      have h := K u H
      obtain ⟨tp, gr, fu, pp, ce, rc, tk, co, ln, nm, nu, gn, gk, gs⟩ := u
      exact br_f (nI_ne0 (by omega) (by omega)) (br_f (fun z => c2 ((nI_eq (b := 2) (by omega) (by decide)).mp z)) (nm_r (nI_1 i) h))
theorem my_78 {post : Int32 → SY → Prop} {J : Int32 → Int32 → Int32 → Int32 → Int32 → (Nat → Int32) → (Nat → Int32) → (Nat → Int32) → (Nat → Int32) → (Nat → Int32) → (Nat → Int64) → (Nat → Int32) → (Nat → Int32) → (Nat → Int64) → (Nat → Int64) → Prop} {x2 : Int32} (hE : mq_EI m T) (hs : mq_gi s) {i mo l r : Nat} (hi : i < n 0) (hi16 : n 1 ≤ 16) (hmo : mo = 1 ∨ mo = 2) (hr3 : 3 ≤ r) (hr : r < 6)
    (K : ∀ u', mq_YR n D m T C (mq_row m T C D (n 1) mo l r i s) u' → (fun (u : SY) => match u with | (tp, gr, fu, pp, ce, rc, tk, co, ln, nm, nu, gn, gk, gs) => J (nI (i + 1)) tp gr fu pp ce rc tk co ln nm nu gn gk gs) u') :
    ∀ d j, j + d = n 1 → ∀ u, mq_YR n D m T C (mq_jn m T C D l r i s j).1 u → (fun (u : SY) => match u with | (tp, gr, fu, pp, ce, rc, tk, co, ln, nm, nu, gn, gk, gs) => wY_run_78 post J (nI mo) x2 (nI r) (nI i) (D l i) (d + 1) (mq_b1 (mq_jn m T C D l r i s j).2) (nI j) tp gr fu pp ce rc tk co ln nm nu gn gk gs) u := by
  intro d
  induction d with
  | zero =>
    intro j e u H
    have e : j = n 1 := by omega
    subst e
    have h := my_141 (post := post) (J := J) (x2 := x2) (x3 := nI r) (b := (mq_jn m T C D l r i s (n 1)).2) hE (mq_gi_jn hs (n 1)) H hi (mo := mo) (by omega) (by
      unfold mq_row at K
      rw [if_neg (by omega)] at K
      by_cases c1 : mo = 1
      · rw [if_pos (Or.inl c1)] at K
        rw [if_pos (Or.inl c1)]
        exact K
      · have c2 : mo = 2 := by omega
        cases hb : (mq_jn m T C D l r i s (n 1)).2 with
        | true =>
          rw [if_pos (Or.inr hb)] at K
          rw [if_pos (Or.inr ⟨c2, rfl⟩)]
          exact K
        | false =>
          rw [if_neg (fun z => z.elim c1 (fun y => by rw [hb] at y; exact nomatch y))] at K
          rw [if_neg (fun z => z.elim c1 (fun y => nomatch y.2))]
          exact K)
    obtain ⟨tp, gr, fu, pp, ce, rc, tk, co, ln, nm, nu, gn, gk, gs⟩ := u
    refine br_t ?_ h
    rw [(H.1.1 1 (by decide)).2]
    exact nI_le (Nat.le_refl _) (by omega)
  | succ d ih =>
    intro j e u H
    have hstep : mq_jn m T C D l r i s (j + 1) = if D l i ≠ -2147483648 ∧ D l i = D r j then (mq_q m T C (mq_P D i (some j)) (mq_jn m T C D l r i s j).1, true) else mq_jn m T C D l r i s j := rfl
    have hx := ih (j + 1) (by omega)
    rw [hstep] at hx
    obtain ⟨tp, gr, fu, pp, ce, rc, tk, co, ln, nm, nu, gn, gk, gs⟩ := u
    refine br_f ?_ (br_f (nI_nle (by omega) (by omega)) ?_)
    · rw [(H.1.1 1 (by decide)).2]
      exact nI_ge (by omega) (by omega)
    · by_cases c1 : D l i = -2147483648
      · rw [if_neg (fun z => z.1 c1)] at hx
        exact br_t c1 (nm_r (nI_1 j) (hx _ H))
      · refine br_f c1 ?_
        have e2 : r / 3 = 1 := by omega
        have e3 : ce (48 + 3 * j + r - 3) = D r j := by
          rw [← H.1.2 r hr j (by rw [e2]; omega), e2]
          exact congrArg ce (by omega)
        have e4 : 48 + 3 * nI j + nI r - 3 = nI (48 + 3 * j + r - 3) := by
          rw [mi_3', show (48 : Int32) = nI 48 from rfl, nI_add, nI_add, show (3 : Int32) = nI 3 from rfl, pk_sub (by omega)]
        rw [e4, nI_clamp (by omega), e3]
        refine ⟨vp_in_nI (by omega) (by decide), ?_⟩
        by_cases c2 : D r j = D l i
        · rw [if_pos ⟨c1, c2.symm⟩] at hx
          refine br_t c2 ?_
          refine my_pair hE (mq_gi_jn hs j) H hi (jo := some j) (Or.inl ⟨j, by omega, rfl, rfl⟩) ?_
          intro u' hu
          have hx2 := hx u' hu
          obtain ⟨tp, gr, fu, pp, ce, rc, tk, co, ln, nm, nu, gn, gk, gs⟩ := u'
          exact nm_r (nI_1 j) hx2
        · rw [if_neg (fun z => c2 z.2.symm)] at hx
          exact br_f c2 (nm_r (nI_1 j) (hx _ H))
theorem my_row {post : Int32 → SY → Prop} {J : Int32 → Int32 → Int32 → Int32 → Int32 → (Nat → Int32) → (Nat → Int32) → (Nat → Int32) → (Nat → Int32) → (Nat → Int32) → (Nat → Int64) → (Nat → Int32) → (Nat → Int32) → (Nat → Int64) → (Nat → Int64) → Prop} {x2 : Int32} {u : SY} (hE : mq_EI m T) (hs : mq_gi s) (H : mq_YR n D m T C s u) {i mo l r : Nat} (hi : i < n 0) (hmo : mo < 3) (hr3 : 3 ≤ r) (hr : r < 6)
    (K : ∀ u', mq_YR n D m T C (mq_row m T C D (n 1) mo l r i s) u' → (fun (u : SY) => match u with | (tp, gr, fu, pp, ce, rc, tk, co, ln, nm, nu, gn, gk, gs) => J (nI (i + 1)) tp gr fu pp ce rc tk co ln nm nu gn gk gs) u') :
    (fun (u : SY) => match u with | (tp, gr, fu, pp, ce, rc, tk, co, ln, nm, nu, gn, gk, gs) => ∃ k : Nat, wY_run_78 post J (nI mo) x2 (nI r) (nI i) (D l i) k 0 0 tp gr fu pp ce rc tk co ln nm nu gn gk gs) u := by
  have h1 := my_n16 H 1 (by decide)
  by_cases c0 : mo = 0
  · have h := my_141 (post := post) (J := J) (x2 := x2) (x3 := nI r) (b := false) hE hs H hi hmo (by
      unfold mq_row at K
      rw [if_pos c0] at K
      rw [if_neg (by omega)]
      exact K)
    obtain ⟨tp, gr, fu, pp, ce, rc, tk, co, ln, nm, nu, gn, gk, gs⟩ := u
    refine ⟨1, ?_⟩
    by_cases c1 : n 1 = 0
    · refine br_t ?_ h
      rw [(H.1.1 1 (by decide)).2, c1]
      decide
    · refine br_f ?_ (br_t (by rw [c0]; decide) h)
      rw [(H.1.1 1 (by decide)).2]
      exact nI_nle (by omega) (by omega)
  · have h := my_78 (post := post) (J := J) (x2 := x2) hE hs hi h1 (by omega : mo = 1 ∨ mo = 2) hr3 hr K (n 1) 0 (by omega) u H
    obtain ⟨tp, gr, fu, pp, ce, rc, tk, co, ln, nm, nu, gn, gk, gs⟩ := u
    exact ⟨n 1 + 1, h⟩
theorem my_run {post : Int32 → SY → Prop} {u : SY} (hE : mq_EI m T) (H : mq_YR n D m T C s u) {mo l r : Nat} (hmo : mo < 3) (hl : l < 3) (hr3 : 3 ≤ r) (hr : r < 6)
    (K : ∀ u', mq_YR n D m T C (mq_end (mq_rows m T C D (n 1) mo l r (n 0))) u' → post (mq_ans (mq_rows m T C D (n 1) mo l r (n 0))) u') : wpY_run post u (nI mo) (nI l) (nI r) := by
  have h0 := my_n16 H 0 (by decide)
  have q48 : ∀ d i, i + d = n 0 → ∀ u, mq_YR n D m T C (mq_rows m T C D (n 1) mo l r i) u → (fun (u : SY) => match u with | (tp, gr, fu, pp, ce, rc, tk, co, ln, nm, nu, gn, gk, gs) => wY_run_48 post (nI mo) (nI l) (nI r) (d + 1) (nI i) tp gr fu pp ce rc tk co ln nm nu gn gk gs) u := by
    intro d
    induction d with
    | zero =>
      intro i e u H
      have e : i = n 0 := by omega
      subst e
      obtain ⟨tp, gr, fu, pp, ce, rc, tk, co, ln, nm, nu, gn, gk, gs⟩ := u
      refine br_t (by rw [(H.1.1 0 (by decide)).2]; exact nI_le (Nat.le_refl _) (by omega)) ?_
      obtain ⟨HT, HE, HF, hgr, hpp, hfu⟩ := H
      generalize mq_rows m T C D (n 1) mo l r (n 0) = s' at HF hgr hpp hfu K
      obtain ⟨g, G, S, b, cc⟩ := s'
      unfold mq_end mq_ans at K
      dsimp only at K
      cases b with
      | true =>
        rw [if_pos rfl, if_pos rfl] at K
        have hfu' : fu = 1 := hfu
        have h1 : ¬ fu = 0 := by rw [hfu']; decide
        exact br_f h1 (br_f h1 (K _ ⟨HT, HE, fun i hi => absurd hi (Nat.not_lt_zero i), rfl, hpp, hfu⟩))
      | false =>
        rw [if_neg (by decide), if_neg (by decide)] at K
        have hgr : gr = nI g := hgr
        have hfu' : fu = 0 := hfu
        refine br_t hfu' (br_t hfu' ?_)
        subst hgr
        exact K _ ⟨HT, HE, HF, rfl, hpp, hfu⟩
    | succ d ih =>
      intro i e u H
      have hrow := my_row (post := post) (J := wY_run_48 post (nI mo) (nI l) (nI r) (d + 1)) (x2 := nI l) (l := l) hE (mq_gi_rows i) H (by omega) hmo hr3 hr (fun u' hu => ih (i + 1) (by omega) u' hu)
      obtain ⟨tp, gr, fu, pp, ce, rc, tk, co, ln, nm, nu, gn, gk, gs⟩ := u
      refine br_f (by rw [(H.1.1 0 (by decide)).2]; exact nI_ge (by omega) (by omega)) ?_
      have e2 : l / 3 = 0 := by omega
      have e5 : l % 3 = l := by omega
      have e3 : ce (3 * i + l) = D l i := by
        rw [← H.1.2 l (by omega) i (by rw [e2]; omega), e2, e5]
        exact congrArg ce (by omega)
      rw [mi_3', nI_add, nI_clamp (by omega), e3]
      exact ⟨vp_in_nI (by omega) (by decide), nm_e hrow⟩
  obtain ⟨tp, gr, fu, pp, ce, rc, tk, co, ln, nm, nu, gn, gk, gs⟩ := u
  obtain ⟨HT, HE, HF, hgr, hpp, hfu⟩ := H
  refine br_f (nI_pos (by omega)) (br_f (nI_nlt (a := 2) (by omega) (by decide)) (br_f (nI_pos (by omega)) (br_f (nI_nlt (a := 2) (by omega) (by decide)) (br_f (nI_nlt (b := 3) hr3 (by omega)) (br_t (nI_le (b := 5) (by omega) (by decide)) ⟨n 0 + 1, ?_⟩)))))
  exact q48 (n 0) 0 (by omega) (tp, 0, 0, 0, ce, rc, tk, co, ln, nm, nu, gn, gk, gs) ⟨HT, HE, fun i hi => absurd hi (Nat.not_lt_zero i), rfl, rfl, rfl⟩
theorem my_runn {post : Int32 → SY → Prop} {u : SY} {x y z : Int32} (hx : x < 0 ∨ nI 3 ≤ x ∨ y < 0 ∨ nI 3 ≤ y ∨ z < nI 3 ∨ nI 6 ≤ z) (h : post (-1) u) : wpY_run post u x y z := by
  have g2 : ∀ w : Int32, ¬ w < 0 → nI 3 ≤ w → 2 < w := by
    intro w hw h3
    obtain ⟨j, hj, rfl⟩ := nI_of hw
    exact nI_lt (a := 2) ((nI_leI (by decide) hj).mp h3) hj
  obtain ⟨tp, gr, fu, pp, ce, rc, tk, co, ln, nm, nu, gn, gk, gs⟩ := u
  by_cases c1 : x < 0
  · exact br_t c1 h
  · refine br_f c1 ?_
    by_cases c2 : 2 < x
    · exact br_t c2 h
    · refine br_f c2 ?_
      have hx3 := (hx.resolve_left c1).resolve_left (fun w => c2 (g2 x c1 w))
      by_cases c3 : y < 0
      · exact br_t c3 h
      · refine br_f c3 ?_
        by_cases c4 : 2 < y
        · exact br_t c4 h
        · refine br_f c4 ?_
          have hx5 := (hx3.resolve_left c3).resolve_left (fun w => c4 (g2 y c3 w))
          by_cases c5 : z < nI 3
          · exact br_t c5 h
          · refine br_f c5 (br_f ?_ h)
            have h6 := hx5.resolve_left c5
            rw [Int32.not_le]
            rw [Int32.le_iff_toInt_le] at h6
            rw [Int32.lt_iff_toInt_lt]
            have q5 : (5 : Int32).toInt = 5 := by decide
            have q6 : (nI 6).toInt = 6 := by decide
            omega
theorem i_vc_run {k : Nat} {u : SX} {v : SY} (I : i_Rel k u v) (hk : k + 5 ≤ 2560) (v1 : Int32) (v2 : Int32) (v3 : Int32) : wpX_run (fun r u' => wpY_run (fun r' v' => r' = r ∧ i_Rel (k + 5) u' v') v v1 v2 v3) u v1 v2 v3 := by
  have I2 := I
  obtain ⟨n, D, m, T, C, s, hI, hX, hY⟩ := I
  have bad : (v1 < 0 ∨ nI 3 ≤ v1 ∨ v2 < 0 ∨ nI 3 ≤ v2 ∨ v3 < nI 3 ∨ nI 6 ≤ v3) → wpX_run (fun r u' => wpY_run (fun r' v' => r' = r ∧ i_Rel (k + 5) u' v') v v1 v2 v3) u v1 v2 v3 := fun h => mx_runn h (my_runn h ⟨rfl, I2⟩)
  rcases pk_ix v1 (n := 3) (by decide) with h | h | ⟨mo, hmo, rfl⟩
  · exact bad (Or.inl h)
  · exact bad (Or.inr (Or.inl h))
  · rcases pk_ix v2 (n := 3) (by decide) with h | h | ⟨l, hl, rfl⟩
    · exact bad (Or.inr (Or.inr (Or.inl h)))
    · exact bad (Or.inr (Or.inr (Or.inr (Or.inl h))))
    · rcases pk_ix v3 (n := 6) (by decide) with h | h | ⟨r, hr, rfl⟩
      · refine bad (Or.inr (Or.inr (Or.inr (Or.inr (Or.inl ?_)))))
        rw [Int32.lt_iff_toInt_lt] at h ⊢
        have q0 : (0 : Int32).toInt = 0 := by decide
        have q3 : (nI 3).toInt = 3 := by decide
        omega
      · exact bad (Or.inr (Or.inr (Or.inr (Or.inr (Or.inr h)))))
      · by_cases hr3 : 3 ≤ r
        · refine mx_run hI.1 hX hmo hl hr3 hr (fun u' hX' => my_run hI.1 hY hmo hl hr3 hr (fun v' hY' => ⟨rfl, _, _, _, _, _, _, ⟨hI.1, ?_, ?_⟩, hX', hY'⟩))
          · have hg := mq_gi_rows (m := m) (T := T) (C := C) (D := D) (n1 := n 1) (mo := mo) (l := l) (r := r) (n 0)
            unfold mq_end
            split
            · exact ⟨Nat.zero_le 12, fun i j _ h => absurd h (Nat.not_lt_zero j)⟩
            · exact hg
          · unfold mq_end
            split
            · exact fun _ => rfl
            · rename_i hb
              exact fun z => absurd z hb
        · exact bad (Or.inr (Or.inr (Or.inr (Or.inr (Or.inl (nI_lt (by omega) (by decide)))))))
end MQ18
