section MQ16
variable {n : Nat → Nat} {D : Nat → Nat → Int32} {m : Nat → Nat} {T C : Nat → Nat → Int32} {s : MqG}
def mq_jx (n : Nat → Nat) (jo : Option Nat) (x : Int32) : Prop := (∃ j, j < n 1 ∧ jo = some j ∧ x = nI j) ∨ (jo = none ∧ x = -1)
theorem mx_lp {post : SX → Prop} {gc pc tm : Int32} {ce rc tk co ln ki : Nat → Int32} {nm : Nat → Int64} {nu pr : Nat → Int32} {fa : Nat → Int64} (HT : mq_TX n D ce rc) {i : Nat} (hi : i < n 0) {jo : Option Nat} {x : Int32} (hx : mq_jx n jo x)
    (K : ∀ pr, (∀ c, c < 6 → pr c = mq_P D i jo c) → post (gc, pc, tm, ce, rc, tk, co, ln, ki, nm, nu, pr, fa)) : wpX_loadPair post (gc, pc, tm, ce, rc, tk, co, ln, ki, nm, nu, pr, fa) (nI i) x := by
  have h16 := (HT.1 0 (by decide)).1
  have h17 := (HT.1 1 (by decide)).1
  have q : ∀ d c, c + d = 6 → ∀ pr, (∀ c', c' < c → pr c' = mq_P D i jo c') → wX_loadPair_2 post (nI i) x gc pc tm (d + 1) (nI c) ce rc tk co ln ki nm nu pr fa := by
    intro d
    induction d with
    | zero =>
      intro c e pr hpr
      have e : c = 6 := by omega
      subst e
      exact br_t (by decide) (K pr hpr)
    | succ d ih =>
      intro c e pr hpr
      have c1 : (nI c).toNatClampNeg = c := nI_clamp (by omega)
      have i1 : vp_in (nI c) 6 := vp_in_nI (by omega) (by decide)
      have hnext : ∀ v, v = mq_P D i jo c → wX_loadPair_2 post (nI i) x gc pc tm (d + 1) (nI (c + 1)) ce rc tk co ln ki nm nu (upd pr c v) fa := by
        intro v hv
        refine ih (c + 1) (by omega) _ ?_
        intro c' hc'
        by_cases ec : c' = c
        · rw [ec, pk_us]; exact hv
        · rw [pk_un ec]; exact hpr c' (by omega)
      refine br_f (nI_ge (b := 6) (by omega) (by decide)) ?_
      by_cases c3 : 3 ≤ c
      · refine br_t (nI_le (a := 3) c3 (by omega)) ?_
        rcases hx with ⟨j, hj, ej, ex⟩ | ⟨ej, ex⟩
        · subst ex
          refine br_f (mn_n1 (by omega)) ?_
          rw [mi_16, c1, nI_clamp (by omega)]
          refine ⟨vp_in_nI (by omega) (by decide), i1, nm_e (nm_r (nI_1 c) (hnext _ ?_))⟩
          have e2 : c / 3 = 1 := by omega
          rw [Nat.mul_comm c 16, HT.2 c (by omega) j (by rw [e2]; exact hj)]
          unfold mq_P
          rw [if_neg (by omega), ej]
        · subst ex
          refine br_t rfl ⟨i1, ?_⟩
          rw [c1]
          refine nm_e (nm_r (nI_1 c) (hnext _ ?_))
          unfold mq_P
          rw [if_neg (by omega), ej]
      · refine br_f (nI_ge (b := 3) (by omega) (by decide)) (br_f (mn_n1 (by omega)) ?_)
        rw [mi_16, c1, nI_clamp (by omega)]
        refine ⟨vp_in_nI (by omega) (by decide), i1, nm_e (nm_r (nI_1 c) (hnext _ ?_))⟩
        have e2 : c / 3 = 0 := by omega
        rw [Nat.mul_comm c 16, HT.2 c (by omega) i (by rw [e2]; exact hi)]
        unfold mq_P
        rw [if_pos (by omega)]
  exact ⟨7, q 6 0 rfl pr (fun c' hc' => absurd hc' (Nat.not_lt_zero c'))⟩
/-- what remains when the group is found -/
theorem mx_tail {post : SX → Prop} {gc pc tm : Int32} {ce rc tk co ln ki : Nat → Int32} {nm : Nat → Int64} {nu pr : Nat → Int32} {fa : Nat → Int64} {P : Nat → Int32} {s1 : MqG} {c : Int32} (hE : mq_EI m T) (HT : mq_TX n D ce rc) (HE : mq_EX m T C tk co ln) (HF : mq_FX s1 fa) (hgc : gc = nI s1.1) (hpc : pc = c) (htm : tm = mq_bi s1.2.2.2.1) (hP : ∀ c, c < 6 → pr c = P c) {p : Nat} (hp : p < 12)
    (K : ∀ u', mq_XR n D m T C (s1.1, s1.2.1, (if s1.2.2.2.1 = true then s1.2.2.1 else mq_upS p (mq_ev (T 1) (C 1) P (m 1)) s1.2.2.1), s1.2.2.2.1, c) u' → post u') :
    wpX_evaluate (fun u => match u with | (gc, pc, tm, ce, rc, tk, co, ln, ki, nm, nu, pr, fa) => (((nu 19) = 0 → (wpX_addValue (fun u => match u with | (gc, pc, tm, ce, rc, tk, co, ln, ki, nm, nu, pr, fa) => (post (gc, pc, tm, ce, rc, tk, co, ln, ki, nm, nu, pr, fa))) (gc, pc, tm, ce, rc, tk, co, ln, ki, nm, nu, pr, fa) (nI p) (nm 19))) ∧ (¬ (nu 19) = 0 → (post (gc, pc, tm, ce, rc, tk, co, ln, ki, nm, nu, pr, fa))))) (gc, pc, tm, ce, rc, tk, co, ln, ki, nm, nu, pr, vp_updL fa (p * 7 + 2) (fa (p * 7 + 2) + 1)) 1 := by
  refine mx_ev (e := 1) (P := P) HE (by decide) (hE.1 1 (by decide)) hP hE.2.2.1 ?_
  intro nm nu hv
  generalize mq_ev (T 1) (C 1) P (m 1) = v at hv K
  cases v with
  | none =>
    have h1 : nu 19 = 1 := hv
    have h1' : ¬ nu 19 = 0 := by rw [h1]; decide
    refine br_f h1' (K _ ⟨HT, HE, ?_, hgc, hpc, htm⟩)
    refine mq_fx_up HF ?_ ?_
    · intro j hj
      exact pk_uLn (by omega)
    · intro j hj
      show _ = (if j = 0 then fa (7 * p + 2 + 0) + 1 else fa (7 * p + 2 + j))
      by_cases j0 : j = 0
      · subst j0
        rw [if_pos rfl, Nat.add_zero, Nat.mul_comm 7 p, pk_uLs]
      · rw [if_neg j0, pk_uLn (by omega)]
  | some x =>
    obtain ⟨h1, h2⟩ := hv
    refine br_t h1 ?_
    rw [h2]
    refine mx_av hp ?_
    intro f f0 f3 f4 f5 f6
    rw [pk_uLn (j := p * 7 + 3) (by omega)] at f3 f5 f6
    rw [pk_uLn (j := p * 7 + 4) (by omega)] at f4
    rw [pk_uLn (j := p * 7 + 5) (by omega)] at f5
    rw [pk_uLn (j := p * 7 + 6) (by omega)] at f6
    refine K _ ⟨HT, HE, ?_, hgc, hpc, htm⟩
    refine mq_fx_up HF ?_ ?_
    · intro j hj
      rw [f0 j (by omega)]
      exact pk_uLn (by omega)
    · intro j hj
      have e7 : 7 * p = p * 7 := Nat.mul_comm 7 p
      rw [e7]
      show f (p * 7 + 2 + j) = (if j = 0 then fa (p * 7 + 2 + 0) + 1 else if j = 1 then fa (p * 7 + 2 + 1) + 1 else if j = 2 then fa (p * 7 + 2 + 2) + x else if j = 3 then (if fa (p * 7 + 2 + 1) = 0 ∨ x < fa (p * 7 + 2 + 3) then x else fa (p * 7 + 2 + 3)) else if j = 4 then (if fa (p * 7 + 2 + 1) = 0 ∨ fa (p * 7 + 2 + 4) < x then x else fa (p * 7 + 2 + 4)) else fa (p * 7 + 2 + j))
      by_cases j0 : j = 0
      · subst j0
        rw [if_pos rfl]
        rw [f0 (p * 7 + 2 + 0) (by omega)]
        exact pk_uLs
      · rw [if_neg j0]
        by_cases j1 : j = 1
        · subst j1
          rw [if_pos rfl]
          exact f3
        · rw [if_neg j1]
          by_cases j2 : j = 2
          · subst j2
            rw [if_pos rfl]
            exact f4
          · rw [if_neg j2]
            by_cases j3 : j = 3
            · subst j3
              rw [if_pos rfl]
              exact f5
            · have j4 : j = 4 := by omega
              subst j4
              rw [if_neg j3, if_pos rfl]
              exact f6
theorem mx_72 {post : SX → Prop} {gc pc tm : Int32} {ce rc tk co ln ki : Nat → Int32} {nm : Nat → Int64} {nu pr : Nat → Int32} {fa : Nat → Int64} {P : Nat → Int32} {q : Option Int64} (hE : mq_EI m T) (hs : mq_gi s) (HT : mq_TX n D ce rc) (HE : mq_EX m T C tk co ln) (HF : mq_FX s fa) (hgc : gc = nI s.1) (hpc : pc = s.2.2.2.2 + 1) (htm : tm = mq_bi s.2.2.2.1) (hP : ∀ c, c < 6 → pr c = P c)
    (K : ∀ u', mq_XR n D m T C (mq_hit q (mq_ev (T 1) (C 1) P (m 1)) s) u' → post u') : wX_considerPair_72 post (mq_kb q) (mq_kv q) gc pc tm ce rc tk co ln ki nm nu pr fa := by
  obtain ⟨g, G, S, b, cc⟩ := s
  obtain ⟨h12, hsrt⟩ := hs
  have h12 : g ≤ 12 := h12
  have hple := mq_plc_le G q g
  unfold wX_considerPair_72
  refine mx_gw (n := g) (G := G) (q := q) h12 hgc (fun i hi => ⟨by rw [Nat.mul_comm]; exact (HF i hi).1, by rw [Nat.mul_comm]; exact (HF i hi).2.1⟩) ?_ ?_ ?_
  · intro hf
    refine br_f (mn_n1 (by omega)) ?_
    rw [mi_7k (mq_plc G q g) 2, nI_clamp (by omega)]
    refine ⟨vp_in_nI (by omega) (by decide), vp_in_nI (by omega) (by decide), nm_e ?_⟩
    refine mx_tail (s1 := (g, G, S, b, cc)) (c := cc + 1) hE HT HE HF hgc hpc htm hP (by omega) ?_
    intro u' hu
    refine K u' ?_
    unfold mq_hit
    dsimp only
    rw [if_pos hf]
    exact hu
  · intro hf hg
    refine br_t rfl (K _ ?_)
    unfold mq_hit
    dsimp only
    rw [if_neg hf, if_pos hg]
    exact ⟨HT, HE, fun i hi => ⟨(HF i hi).1, (HF i hi).2.1, fun z => Bool.noConfusion z⟩, hgc, hpc, rfl⟩
  · intro hf hg
    refine br_f (mn_n1 (by omega)) ?_
    rw [mi_7k (mq_plc G q g) 2, nI_clamp (by omega)]
    refine ⟨vp_in_nI (by omega) (by decide), vp_in_nI (by omega) (by decide), nm_e ?_⟩
    refine mx_tail (s1 := (g + 1, mq_ins G (mq_plc G q g) q, mq_ins S (mq_plc G q g) (fun _ => 0), b, cc)) (c := cc + 1) hE HT HE (mq_fx_in HF hple) rfl hpc htm hP (by omega) ?_
    intro u' hu
    refine K u' ?_
    unfold mq_hit
    dsimp only
    rw [if_neg hf, if_neg (by omega)]
    exact hu
theorem mx_cp {post : SX → Prop} {u : SX} (hE : mq_EI m T) (hs : mq_gi s) (H : mq_XR n D m T C s u) {i : Nat} (hi : i < n 0) {jo : Option Nat} {x : Int32} (hx : mq_jx n jo x)
    (K : ∀ u', mq_XR n D m T C (mq_q m T C (mq_P D i jo) s) u' → post u') : wpX_considerPair post u (nI i) x := by
  obtain ⟨gc, pc, tm, ce, rc, tk, co, ln, ki, nm, nu, pr, fa⟩ := u
  obtain ⟨HT, HE, HF, hgc, hpc, htm⟩ := H
  unfold wpX_considerPair
  dsimp only
  refine mx_lp HT hi hx ?_
  intro pr hP
  refine mx_ev (e := 0) (P := mq_P D i jo) HE (by decide) (hE.1 0 (by decide)) hP hE.2.1 ?_
  intro nm nu hv
  have htt : mq_tt (mq_ev (T 0) (C 0) (mq_P D i jo) (m 0)) := mq_ty (hE.1 0 (by decide)) (m 0) (Nat.le_refl _) 0 hE.2.1.2.2
  unfold mq_q mq_pair at K
  generalize mq_ev (T 0) (C 0) (mq_P D i jo) (m 0) = v at hv K htt
  rcases htt with rfl | rfl | rfl
  · have h1 : nu 19 = 1 := hv
    rw [if_neg (fun z => nomatch z)] at K
    have h1' : ¬ nu 19 = 0 := by rw [h1]; decide
    exact br_f h1' (K _ ⟨HT, HE, HF, hgc, hpc, htm⟩)
  · obtain ⟨h1, h2⟩ := hv
    rw [if_neg (by decide)] at K
    exact br_t h1 (br_t h2 (K _ ⟨HT, HE, HF, hgc, hpc, htm⟩))
  · obtain ⟨h1, h2⟩ := hv
    rw [if_pos rfl] at K
    have h2' : ¬ nm 19 = 0 := by rw [h2]; decide
    refine br_t h1 (br_f h2' (nm_e ?_))
    refine mx_ev (e := 2) (P := mq_P D i jo) HE (by decide) (hE.1 2 (by decide)) hP hE.2.2.2 ?_
    intro nm nu hv
    generalize mq_ev (T 2) (C 2) (mq_P D i jo) (m 2) = q at hv K
    have hq : (nu 19 = 1 ∧ q = none) ∨ (nu 19 = 0 ∧ q = some (nm 19)) := by
      cases q with
      | none => exact Or.inl ⟨hv, rfl⟩
      | some y => exact Or.inr ⟨hv.1, congrArg some hv.2.symm⟩
    rcases hq with ⟨a, rfl⟩ | ⟨a, rfl⟩
    · refine nm_r a (br_f (by decide) ?_)
      exact mx_72 (q := none) hE hs HT HE HF hgc (by rw [hpc]) htm hP K
    · refine nm_r a (br_t rfl ?_)
      exact mx_72 (q := some (nm 19)) hE hs HT HE HF hgc (by rw [hpc]) htm hP K
/-! a row, and all rows -/
theorem mx_86 {post : SX → Prop} {u : SX} (hE : mq_EI m T) (hs : mq_gi s) (H : mq_XR n D m T C s u) {i mo : Nat} (hi : i < n 0) (hmo : mo < 3) {b : Bool} {l r : Nat}
    (K : ∀ u', mq_XR n D m T C (if mo = 1 ∨ b = true then s else mq_q m T C (mq_P D i none) s) u' → post u') : (fun (u : SX) => match u with | (gc, pc, tm, ce, rc, tk, co, ln, ki, nm, nu, pr, fa) => wX_considerRow_86 post (nI mo) (nI i) (mq_b1 b) gc pc tm ce rc tk co ln ki nm nu pr fa) u := by
  by_cases c1 : mo = 1
  · rw [if_pos (Or.inl c1)] at K
    have K2 := K u H
    obtain ⟨gc, pc, tm, ce, rc, tk, co, ln, ki, nm, nu, pr, fa⟩ := u
    subst c1
    exact br_t rfl K2
  · cases b with
    | true =>
      rw [if_pos (Or.inr rfl)] at K
      have K2 := K u H
      obtain ⟨gc, pc, tm, ce, rc, tk, co, ln, ki, nm, nu, pr, fa⟩ := u
      exact br_f (fun z => c1 ((nI_eq (b := 1) (by omega) (by decide)).mp z)) (br_f (by decide) K2)
    | false =>
      rw [if_neg (fun z => z.elim c1 (fun y => nomatch y))] at K
      obtain ⟨gc, pc, tm, ce, rc, tk, co, ln, ki, nm, nu, pr, fa⟩ := u
      refine br_f (fun z => c1 ((nI_eq (b := 1) (by omega) (by decide)).mp z)) (br_t rfl ?_)
      refine mx_cp hE hs H hi (jo := none) (Or.inr ⟨rfl, rfl⟩) ?_
      intro u' hu
      obtain ⟨gc, pc, tm, ce, rc, tk, co, ln, ki, nm, nu, pr, fa⟩ := u'
      exact K _ hu
theorem mx_38 {post : SX → Prop} (hE : mq_EI m T) (hs : mq_gi s) {i mo l r : Nat} (hi : i < n 0) (hi16 : n 1 ≤ 16) (hmo : mo = 1 ∨ mo = 2) (hl : l < 3) (hr3 : 3 ≤ r) (hr : r < 6)
    (K : ∀ u', mq_XR n D m T C (mq_row m T C D (n 1) mo l r i s) u' → post u') :
    ∀ d j, j + d = n 1 → ∀ u, mq_XR n D m T C (mq_jn m T C D l r i s j).1 u → (fun (u : SX) => match u with | (gc, pc, tm, ce, rc, tk, co, ln, ki, nm, nu, pr, fa) => wX_considerRow_38 post (nI mo) (nI r) (nI i) (D l i) (nI (n 1)) (d + 1) (mq_b1 (mq_jn m T C D l r i s j).2) (nI j) gc pc tm ce rc tk co ln ki nm nu pr fa) u := by
  intro d
  induction d with
  | zero =>
    intro j e u H
    have e : j = n 1 := by omega
    subst e
    have h86 := mx_86 (post := post) (b := (mq_jn m T C D l r i s (n 1)).2) (l := l) (r := r) hE (mq_gi_jn hs (n 1)) H hi (mo := mo) (by omega) (by
      unfold mq_row at K
      rw [if_neg (by omega)] at K
      exact K)
    obtain ⟨gc, pc, tm, ce, rc, tk, co, ln, ki, nm, nu, pr, fa⟩ := u
    exact br_t (nI_le (Nat.le_refl _) (by omega)) h86
  | succ d ih =>
    intro j e u H
    have hstep : mq_jn m T C D l r i s (j + 1) = if D l i ≠ -2147483648 ∧ D l i = D r j then (mq_q m T C (mq_P D i (some j)) (mq_jn m T C D l r i s j).1, true) else mq_jn m T C D l r i s j := rfl
    have hx := ih (j + 1) (by omega)
    rw [hstep] at hx
    obtain ⟨gc, pc, tm, ce, rc, tk, co, ln, ki, nm, nu, pr, fa⟩ := u
    refine br_f (nI_ge (by omega) (by omega)) ?_
    by_cases c1 : D l i = -2147483648
    · rw [if_neg (fun z => z.1 c1)] at hx
      exact br_t c1 (nm_r (nI_1 j) (hx _ H))
    · refine br_f c1 ?_
      have e2 : r / 3 = 1 := by omega
      have e3 : ce (r * 16 + j) = D r j := by
        rw [Nat.mul_comm]
        exact H.1.2 r hr j (by rw [e2]; omega)
      rw [mi_16, nI_clamp (by omega), e3]
      refine ⟨vp_in_nI (by omega) (by decide), ?_⟩
      by_cases c2 : D l i = D r j
      · rw [if_pos ⟨c1, c2⟩] at hx
        refine br_t c2 ?_
        refine mx_cp hE (mq_gi_jn hs j) H hi (jo := some j) (Or.inl ⟨j, by omega, rfl, rfl⟩) ?_
        intro u' hu
        have hx2 := hx u' hu
        obtain ⟨gc, pc, tm, ce, rc, tk, co, ln, ki, nm, nu, pr, fa⟩ := u'
        exact nm_r (nI_1 j) hx2
      · rw [if_neg (fun z => c2 z.2)] at hx
        exact br_f c2 (nm_r (nI_1 j) (hx _ H))
theorem mx_cr {post : SX → Prop} {u : SX} (hE : mq_EI m T) (hs : mq_gi s) (H : mq_XR n D m T C s u) {i mo l r : Nat} (hi : i < n 0) (hmo : mo < 3) (hl : l < 3) (hr3 : 3 ≤ r) (hr : r < 6)
    (K : ∀ u', mq_XR n D m T C (mq_row m T C D (n 1) mo l r i s) u' → post u') : wpX_considerRow post u (nI mo) (nI l) (nI r) (nI i) := by
  have h16 := mx_n16 H
  have h0 := h16 0 (by decide)
  have h1 := h16 1 (by decide)
  have q13 : (mo = 1 ∨ mo = 2) → (fun (u : SX) => match u with | (gc, pc, tm, ce, rc, tk, co, ln, ki, nm, nu, pr, fa) => wX_considerRow_13 post (nI mo) (nI l) (nI r) (nI i) 0 gc pc tm ce rc tk co ln ki nm nu pr fa) u := by
    intro hm
    have h38 := mx_38 hE hs hi h1 hm hl hr3 hr K (n 1) 0 (by omega) u H
    obtain ⟨gc, pc, tm, ce, rc, tk, co, ln, ki, nm, nu, pr, fa⟩ := u
    unfold wX_considerRow_13
    dsimp only
    have e2 : l / 3 = 0 := by omega
    have e3 : ce (l * 16 + i) = D l i := by
      rw [Nat.mul_comm]
      exact H.1.2 l (by omega) i (by rw [e2]; exact hi)
    rw [mi_16, nI_clamp (by omega), e3, (H.1.1 1 (by decide)).2]
    exact ⟨vp_in_nI (by omega) (by decide), nm_e (nm_e ⟨n 1 + 1, h38⟩)⟩
  by_cases c1 : mo = 1
  · have h := q13 (Or.inl c1)
    obtain ⟨gc, pc, tm, ce, rc, tk, co, ln, ki, nm, nu, pr, fa⟩ := u
    exact br_t (by rw [c1]; rfl) h
  · by_cases c2 : mo = 2
    · have h := q13 (Or.inr c2)
      obtain ⟨gc, pc, tm, ce, rc, tk, co, ln, ki, nm, nu, pr, fa⟩ := u
      exact br_f (fun z => c1 ((nI_eq (b := 1) (by omega) (by decide)).mp z)) (br_t (by rw [c2]; rfl) h)
    · have c0 : mo = 0 := by omega
      have h86 := mx_86 (post := post) (b := false) (l := l) (r := r) hE hs H hi hmo (by
        unfold mq_row at K
        rw [if_pos c0] at K
        rw [if_neg (fun z => z.elim c1 (fun y => nomatch y))]
        exact K)
      obtain ⟨gc, pc, tm, ce, rc, tk, co, ln, ki, nm, nu, pr, fa⟩ := u
      exact br_f (fun z => c1 ((nI_eq (b := 1) (by omega) (by decide)).mp z)) (br_f (fun z => c2 ((nI_eq (b := 2) (by omega) (by decide)).mp z)) h86)
def mq_end (s : MqG) : MqG := if s.2.2.2.1 = true then (0, s.2.1, s.2.2.1, true, s.2.2.2.2) else s
def mq_ans (s : MqG) : Int32 := if s.2.2.2.1 = true then -2 else nI s.1
theorem mx_run {post : Int32 → SX → Prop} {u : SX} (hE : mq_EI m T) (H : mq_XR n D m T C s u) {mo l r : Nat} (hmo : mo < 3) (hl : l < 3) (hr3 : 3 ≤ r) (hr : r < 6)
    (K : ∀ u', mq_XR n D m T C (mq_end (mq_rows m T C D (n 1) mo l r (n 0))) u' → post (mq_ans (mq_rows m T C D (n 1) mo l r (n 0))) u') : wpX_run post u (nI mo) (nI l) (nI r) := by
  have h16 := mx_n16 H
  have h0 := h16 0 (by decide)
  have q57 : ∀ d i, i + d = n 0 → ∀ u, mq_XR n D m T C (mq_rows m T C D (n 1) mo l r i) u → (fun (u : SX) => match u with | (gc, pc, tm, ce, rc, tk, co, ln, ki, nm, nu, pr, fa) => wX_run_57 post (nI mo) (nI l) (nI r) (nI (n 0)) (d + 1) (nI i) gc pc tm ce rc tk co ln ki nm nu pr fa) u := by
    intro d
    induction d with
    | zero =>
      intro i e u H
      have e : i = n 0 := by omega
      subst e
      obtain ⟨gc, pc, tm, ce, rc, tk, co, ln, ki, nm, nu, pr, fa⟩ := u
      refine br_t (nI_le (Nat.le_refl _) (by omega)) ?_
      obtain ⟨HT, HE, HF, hgc, hpc, htm⟩ := H
      generalize mq_rows m T C D (n 1) mo l r (n 0) = s' at HF hgc hpc htm K
      obtain ⟨g, G, S, b, cc⟩ := s'
      unfold mq_end mq_ans at K
      dsimp only at K
      cases b with
      | true =>
        rw [if_pos rfl, if_pos rfl] at K
        have htm' : tm = 1 := htm
        exact br_f (by rw [htm']; decide) (K _ ⟨HT, HE, fun i hi => absurd hi (Nat.not_lt_zero i), rfl, hpc, htm⟩)
      | false =>
        rw [if_neg (by decide), if_neg (by decide)] at K
        have hgc : gc = nI g := hgc
        have htm' : tm = 0 := htm
        refine br_t htm' ?_
        subst hgc
        exact K _ ⟨HT, HE, HF, rfl, hpc, htm⟩
    | succ d ih =>
      intro i e u H
      obtain ⟨gc, pc, tm, ce, rc, tk, co, ln, ki, nm, nu, pr, fa⟩ := u
      refine br_f (nI_ge (by omega) (by omega)) ?_
      refine mx_cr hE (mq_gi_rows i) H (by omega) hmo hl hr3 hr ?_
      intro u' hu
      have hx := ih (i + 1) (by omega) u' hu
      obtain ⟨gc, pc, tm, ce, rc, tk, co, ln, ki, nm, nu, pr, fa⟩ := u'
      exact nm_r (nI_1 i) hx
  obtain ⟨gc, pc, tm, ce, rc, tk, co, ln, ki, nm, nu, pr, fa⟩ := u
  obtain ⟨HT, HE, HF, hgc, hpc, htm⟩ := H
  refine br_f (nI_pos (by omega)) (br_f (nI_nlt (a := 2) (by omega) (by decide)) (br_f (nI_pos (by omega)) (br_f (nI_ge (b := 3) hl (by decide)) (br_f (nI_nlt (b := 3) hr3 (by omega)) (br_t (nI_lt (b := 6) hr (by decide)) (nm_r (HT.1 0 (by decide)).2 ⟨n 0 + 1, ?_⟩))))))
  exact q57 (n 0) 0 (by omega) (0, 0, 0, ce, rc, tk, co, ln, ki, nm, nu, pr, fa) ⟨HT, HE, fun i hi => absurd hi (Nat.not_lt_zero i), rfl, rfl, rfl⟩
theorem mx_runn {post : Int32 → SX → Prop} {u : SX} {x y z : Int32} (hx : x < 0 ∨ nI 3 ≤ x ∨ y < 0 ∨ nI 3 ≤ y ∨ z < nI 3 ∨ nI 6 ≤ z) (h : post (-1) u) : wpX_run post u x y z := by
  obtain ⟨gc, pc, tm, ce, rc, tk, co, ln, ki, nm, nu, pr, fa⟩ := u
  by_cases c1 : x < 0
  · exact br_t c1 h
  · refine br_f c1 ?_
    by_cases c2 : 2 < x
    · exact br_t c2 h
    · refine br_f c2 ?_
      have hx2 := hx.resolve_left c1
      have c2' : ¬ nI 3 ≤ x := by
        intro w
        obtain ⟨j, hj, rfl⟩ := nI_of c1
        exact c2 (nI_lt (a := 2) ((nI_leI (by decide) hj).mp w) hj)
      have hx3 := hx2.resolve_left c2'
      by_cases c3 : y < 0
      · exact br_t c3 h
      · refine br_f c3 ?_
        by_cases c4 : nI 3 ≤ y
        · exact br_t c4 h
        · refine br_f c4 ?_
          have hx5 := (hx3.resolve_left c3).resolve_left c4
          by_cases c5 : z < nI 3
          · exact br_t c5 h
          · exact br_f c5 (br_f (Int32.not_lt.mpr (hx5.resolve_left c5)) h)
end MQ16
