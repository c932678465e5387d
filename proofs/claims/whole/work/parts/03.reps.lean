section MQR
/-! the run, purely -/
def mq_P (D : Nat → Nat → Int32) (i : Nat) (j : Option Nat) : Nat → Int32 := fun c => if c < 3 then D c i else match j with
  | none => -2147483648
  | some j => D c j
def mq_q (m : Nat → Nat) (T C : Nat → Nat → Int32) (P : Nat → Int32) (s : MqG) : MqG :=
  mq_pair (mq_ev (T 0) (C 0) P (m 0)) (mq_ev (T 2) (C 2) P (m 2)) (mq_ev (T 1) (C 1) P (m 1)) s
def mq_jn (m : Nat → Nat) (T C D : Nat → Nat → Int32) (l r i : Nat) (s : MqG) : Nat → MqG × Bool
  | 0 => (s, false)
  | j + 1 => if D l i ≠ -2147483648 ∧ D l i = D r j then (mq_q m T C (mq_P D i (some j)) (mq_jn m T C D l r i s j).1, true) else mq_jn m T C D l r i s j
def mq_row (m : Nat → Nat) (T C D : Nat → Nat → Int32) (n1 mo l r i : Nat) (s : MqG) : MqG :=
  if mo = 0 then mq_q m T C (mq_P D i none) s
  else if mo = 1 ∨ (mq_jn m T C D l r i s n1).2 = true then (mq_jn m T C D l r i s n1).1
  else mq_q m T C (mq_P D i none) (mq_jn m T C D l r i s n1).1
def mq_rows (m : Nat → Nat) (T C D : Nat → Nat → Int32) (n1 mo l r : Nat) : Nat → MqG
  | 0 => (0, fun _ => none, fun _ _ => 0, false, 0)
  | i + 1 => mq_row m T C D n1 mo l r i (mq_rows m T C D n1 mo l r i)
theorem mq_gi_q {m : Nat → Nat} {T C : Nat → Nat → Int32} {P : Nat → Int32} {s : MqG} (h : mq_gi s) : mq_gi (mq_q m T C P s) := mq_gi_pair h
theorem mq_gi_jn {m : Nat → Nat} {T C D : Nat → Nat → Int32} {l r i : Nat} {s : MqG} (h : mq_gi s) : ∀ j, mq_gi (mq_jn m T C D l r i s j).1 := by
  intro j
  induction j with
  | zero => exact h
  | succ j ih =>
    show mq_gi (if D l i ≠ -2147483648 ∧ D l i = D r j then (mq_q m T C (mq_P D i (some j)) (mq_jn m T C D l r i s j).1, true) else mq_jn m T C D l r i s j).1
    split
    · exact mq_gi_q ih
    · exact ih
theorem mq_gi_row {m : Nat → Nat} {T C D : Nat → Nat → Int32} {n1 mo l r i : Nat} {s : MqG} (h : mq_gi s) : mq_gi (mq_row m T C D n1 mo l r i s) := by
  unfold mq_row
  split
  · exact mq_gi_q h
  · split
    · exact mq_gi_jn h n1
    · exact mq_gi_q (mq_gi_jn h n1)
theorem mq_gi_rows {m : Nat → Nat} {T C D : Nat → Nat → Int32} {n1 mo l r : Nat} : ∀ i, mq_gi (mq_rows m T C D n1 mo l r i) := by
  intro i
  induction i with
  | zero => exact ⟨Nat.zero_le 12, fun i j _ h => absurd h (Nat.not_lt_zero j)⟩
  | succ i ih => exact mq_gi_row ih
/-! tables -/
def mq_TX (n : Nat → Nat) (D : Nat → Nat → Int32) (ce rc : Nat → Int32) : Prop :=
  (∀ t, t < 2 → n t ≤ 16 ∧ rc t = nI (n t)) ∧ ∀ c, c < 6 → ∀ p, p < n (c / 3) → ce (16 * c + p) = D c p
def mq_TY (n : Nat → Nat) (D : Nat → Nat → Int32) (ce rc : Nat → Int32) : Prop :=
  (∀ t, t < 2 → n t ≤ 16 ∧ rc t = nI (n t)) ∧ ∀ c, c < 6 → ∀ p, p < n (c / 3) → ce (48 * (c / 3) + 3 * p + c % 3) = D c p
def mq_nS (n : Nat → Nat) (t k : Nat) : Nat → Nat := fun i => if i = t then k else n i
def mq_Din (n : Nat → Nat) (D : Nat → Nat → Int32) (t : Nat) (x y z : Int32) : Nat → Nat → Int32 := fun c p =>
  if c / 3 = t ∧ p = n t then (if c % 3 = 0 then x else if c % 3 = 1 then y else z) else D c p
def mq_Dse (D : Nat → Nat → Int32) (c0 p0 : Nat) (x : Int32) : Nat → Nat → Int32 := fun c p => if c = c0 ∧ p = p0 then x else D c p
def mq_Dre (D : Nat → Nat → Int32) (t p0 : Nat) : Nat → Nat → Int32 := fun c p => if c / 3 = t ∧ p0 ≤ p then D c (p + 1) else D c p
theorem mq_rc_in {n : Nat → Nat} {rc : Nat → Int32} {t k : Nat} (h : ∀ t, t < 2 → n t ≤ 16 ∧ rc t = nI (n t)) (hk : k ≤ 16) : ∀ i, i < 2 → mq_nS n t k i ≤ 16 ∧ upd rc t (nI k) i = nI (mq_nS n t k i) := by
  intro i hi
  unfold mq_nS upd
  by_cases e : i = t
  · rw [if_pos e, if_pos e]; exact ⟨hk, rfl⟩
  · rw [if_neg e, if_neg e]; exact h i hi
theorem mq_tx_in {n : Nat → Nat} {D : Nat → Nat → Int32} {ce rc : Nat → Int32} {t : Nat} {x y z : Int32} (h : mq_TX n D ce rc) (ht : t < 2) (hn : n t < 16) :
    mq_TX (mq_nS n t (n t + 1)) (mq_Din n D t x y z) (upd (upd (upd ce (3 * t * 16 + n t) x) ((3 * t + 1) * 16 + n t) y) ((3 * t + 2) * 16 + n t) z) (upd rc t (nI (n t + 1))) := by
  refine ⟨mq_rc_in h.1 (by omega), ?_⟩
  intro c hc p hp
  have h16 : ∀ t, t < 2 → n t ≤ 16 := fun t ht => (h.1 t ht).1
  have h2 := h.2 c hc p
  have h3 := h16 (c / 3) (by omega)
  unfold mq_nS at hp
  unfold mq_Din upd
  by_cases e : c / 3 = t
  · rw [if_pos e] at hp
    rw [e] at h2 h3
    by_cases e2 : p = n t
    · rw [if_pos (⟨e, e2⟩ : c / 3 = t ∧ p = n t)]
      by_cases e3 : c % 3 = 0
      · rw [if_neg (by omega), if_neg (by omega), if_pos (by omega), if_pos e3]
      · by_cases e4 : c % 3 = 1
        · rw [if_neg (by omega), if_pos (by omega), if_neg e3, if_pos e4]
        · rw [if_pos (by omega), if_neg e3, if_neg e4]
    · rw [if_neg (by omega), if_neg (by omega), if_neg (by omega), if_neg (fun q => e2 q.2)]
      exact h2 (by omega)
  · rw [if_neg e] at hp
    rw [if_neg (by omega), if_neg (by omega), if_neg (by omega), if_neg (fun q => e q.1)]
    exact h2 hp
theorem mq_ty_in {n : Nat → Nat} {D : Nat → Nat → Int32} {ce rc : Nat → Int32} {t : Nat} {x y z : Int32} (h : mq_TY n D ce rc) (ht : t < 2) (hn : n t < 16) :
    mq_TY (mq_nS n t (n t + 1)) (mq_Din n D t x y z) (upd (upd (upd ce (48 * t + 3 * n t) x) (48 * t + 3 * n t + 1) y) (48 * t + 3 * n t + 2) z) (upd rc t (nI (n t + 1))) := by
  refine ⟨mq_rc_in h.1 (by omega), ?_⟩
  intro c hc p hp
  have h16 : ∀ t, t < 2 → n t ≤ 16 := fun t ht => (h.1 t ht).1
  have h2 := h.2 c hc p
  have h3 := h16 (c / 3) (by omega)
  unfold mq_nS at hp
  unfold mq_Din upd
  by_cases e : c / 3 = t
  · rw [if_pos e] at hp
    rw [e] at h2 h3
    by_cases e2 : p = n t
    · rw [if_pos (⟨e, e2⟩ : c / 3 = t ∧ p = n t)]
      by_cases e3 : c % 3 = 0
      · rw [if_neg (by omega), if_neg (by omega), if_pos (by omega), if_pos e3]
      · by_cases e4 : c % 3 = 1
        · rw [if_neg (by omega), if_pos (by omega), if_neg e3, if_pos e4]
        · rw [if_pos (by omega), if_neg e3, if_neg e4]
    · rw [if_neg (by omega), if_neg (by omega), if_neg (by omega), if_neg (fun q => e2 q.2)]
      rw [e]
      exact h2 (by omega)
  · rw [if_neg e] at hp
    have h4 : p < 16 := by omega
    rw [if_neg (by omega), if_neg (by omega), if_neg (by omega), if_neg (fun q => e q.1)]
    exact h2 hp
theorem mq_tx_se {n : Nat → Nat} {D : Nat → Nat → Int32} {ce rc : Nat → Int32} {c0 p0 : Nat} {x : Int32} (h : mq_TX n D ce rc) (hc0 : c0 < 6) (hp0 : p0 < n (c0 / 3)) :
    mq_TX n (mq_Dse D c0 p0 x) (upd ce (c0 * 16 + p0) x) rc := by
  refine ⟨h.1, ?_⟩
  intro c hc p hp
  have h3 := (h.1 (c / 3) (by omega)).1
  have h4 := (h.1 (c0 / 3) (by omega)).1
  unfold mq_Dse upd
  by_cases e : c = c0 ∧ p = p0
  · rw [if_pos e, if_pos (by omega)]
  · rw [if_neg e, if_neg (by omega)]
    exact h.2 c hc p hp
theorem mq_ty_se {n : Nat → Nat} {D : Nat → Nat → Int32} {ce rc : Nat → Int32} {c0 p0 : Nat} {x : Int32} (h : mq_TY n D ce rc) (hc0 : c0 < 6) (hp0 : p0 < n (c0 / 3)) :
    mq_TY n (mq_Dse D c0 p0 x) (upd ce (48 * (c0 / 3) + 3 * p0 + c0 % 3) x) rc := by
  refine ⟨h.1, ?_⟩
  intro c hc p hp
  have h3 := (h.1 (c / 3) (by omega)).1
  have h4 := (h.1 (c0 / 3) (by omega)).1
  unfold mq_Dse upd
  by_cases e : c = c0 ∧ p = p0
  · rw [if_pos e, if_pos (by rw [e.1, e.2])]
  · rw [if_neg e, if_neg (by omega)]
    exact h.2 c hc p hp
/-! remove -/
def mq_xr (ce : Nat → Int32) (b lo hi : Nat) : Nat → Int32 := fun j => if b + lo ≤ j ∧ j < b + hi then ce (j + 1) else ce j
theorem mq_xr_0 (ce : Nat → Int32) (b lo : Nat) : mq_xr ce b lo lo = ce := by
  funext j
  exact if_neg (by omega)
theorem mq_xr_s {ce : Nat → Int32} {b lo t : Nat} (h : lo ≤ t) : upd (mq_xr ce b lo t) (b + t) (mq_xr ce b lo t (b + t + 1)) = mq_xr ce b lo (t + 1) := by
  funext j
  unfold mq_xr upd
  by_cases e : j = b + t
  · rw [if_pos e, if_neg (by omega), if_pos (by omega), e]
  · rw [if_neg e]
    try dsimp only
    by_cases e2 : b + lo ≤ j ∧ j < b + t
    · rw [if_pos e2, if_pos (by omega)]
    · rw [if_neg e2, if_neg (by omega)]
def mq_xo (ce : Nat → Int32) (f lo hi : Nat) : Nat → Nat → Int32
  | 0 => ce
  | k + 1 => mq_xr (mq_xo ce f lo hi k) ((f + k) * 16) lo hi
theorem mq_tx_re {n : Nat → Nat} {D : Nat → Nat → Int32} {ce rc : Nat → Int32} {t p0 : Nat} (h : mq_TX n D ce rc) (ht : t < 2) (hp0 : p0 < n t) :
    mq_TX (mq_nS n t (n t - 1)) (mq_Dre D t p0) (mq_xo ce (3 * t) p0 (n t - 1) 3) (upd rc t (nI (n t - 1))) := by
  have h16 := (h.1 t ht).1
  refine ⟨mq_rc_in h.1 (by omega), ?_⟩
  intro c hc p hp
  have h3 := (h.1 (c / 3) (by omega)).1
  unfold mq_nS at hp
  show mq_xr (mq_xr (mq_xr ce ((3 * t + 0) * 16) p0 (n t - 1)) ((3 * t + 1) * 16) p0 (n t - 1)) ((3 * t + 2) * 16) p0 (n t - 1) (16 * c + p) = mq_Dre D t p0 c p
  unfold mq_Dre
  by_cases e : c / 3 = t
  · rw [if_pos e] at hp
    have h2 := h.2 c hc (p + 1)
    have h2' := h.2 c hc p
    rw [e] at h2 h2' h3
    by_cases e2 : p0 ≤ p
    · rw [if_pos ⟨e, e2⟩]
      rw [← h2 (by omega)]
      by_cases e3 : c % 3 = 0
      · unfold mq_xr
        rw [if_neg (by omega), if_neg (by omega), if_pos (by omega)]
        exact congrArg ce (by omega)
      · by_cases e4 : c % 3 = 1
        · unfold mq_xr
          rw [if_neg (by omega), if_pos (by omega), if_neg (by omega)]
          exact congrArg ce (by omega)
        · unfold mq_xr
          rw [if_pos (by omega), if_neg (by omega), if_neg (by omega)]
          exact congrArg ce (by omega)
    · rw [if_neg (fun q => e2 q.2)]
      unfold mq_xr
      rw [if_neg (by omega), if_neg (by omega), if_neg (by omega)]
      exact h2' (by omega)
  · rw [if_neg e] at hp
    rw [if_neg (fun q => e q.1)]
    unfold mq_xr
    rw [if_neg (by omega), if_neg (by omega), if_neg (by omega)]
    exact h.2 c hc p hp
def mq_yr (ce : Nat → Int32) (lo t : Nat) : Nat → Int32 := fun j => if lo ≤ j ∧ j < t then ce (j + 3) else ce j
theorem mq_yr_0 (ce : Nat → Int32) (lo : Nat) : mq_yr ce lo lo = ce := by
  funext j
  exact if_neg (by omega)
theorem mq_yr_s {ce : Nat → Int32} {lo t : Nat} (h : lo ≤ t) : upd (mq_yr ce lo t) t (mq_yr ce lo t (t + 3)) = mq_yr ce lo (t + 1) := by
  funext j
  unfold mq_yr upd
  by_cases e : j = t
  · rw [if_pos e, if_neg (by omega), if_pos (by omega), e]
  · rw [if_neg e]
    try dsimp only
    by_cases e2 : lo ≤ j ∧ j < t
    · rw [if_pos e2, if_pos (by omega)]
    · rw [if_neg e2, if_neg (by omega)]
theorem mq_ty_re {n : Nat → Nat} {D : Nat → Nat → Int32} {ce rc : Nat → Int32} {t p0 : Nat} (h : mq_TY n D ce rc) (ht : t < 2) (hp0 : p0 < n t) :
    mq_TY (mq_nS n t (n t - 1)) (mq_Dre D t p0) (mq_yr ce (48 * t + 3 * p0) (48 * t + 3 * (n t - 1))) (upd rc t (nI (n t - 1))) := by
  have h16 := (h.1 t ht).1
  refine ⟨mq_rc_in h.1 (by omega), ?_⟩
  intro c hc p hp
  have h3 := (h.1 (c / 3) (by omega)).1
  unfold mq_nS at hp
  unfold mq_Dre mq_yr
  by_cases e : c / 3 = t
  · rw [if_pos e] at hp
    have h2 := h.2 c hc (p + 1)
    have h2' := h.2 c hc p
    rw [e] at h2 h2' h3
    by_cases e2 : p0 ≤ p
    · rw [if_pos (by omega), if_pos ⟨e, e2⟩, ← h2 (by omega)]
      exact congrArg ce (by omega)
    · rw [if_neg (by omega), if_neg (fun q => e2 q.2), ← h2' (by omega)]
      exact congrArg ce (by omega)
  · rw [if_neg e] at hp
    rw [if_neg (by omega), if_neg (fun q => e q.1)]
    exact h.2 c hc p hp
/-! expressions: the same on both sides -/
def mq_EX (m : Nat → Nat) (T C : Nat → Nat → Int32) (tk co ln : Nat → Int32) : Prop :=
  (∀ e, e < 4 → m e ≤ 20 ∧ ln e = nI (m e)) ∧ ∀ e, e < 4 → ∀ i, i < m e → tk (20 * e + i) = T e i ∧ co (20 * e + i) = C e i
def mq_EI (m : Nat → Nat) (T : Nat → Nat → Int32) : Prop :=
  (∀ e, e < 4 → ∀ i, i < m e → T e i ∈ mq_tk) ∧ mq_WK (T 0) (m 0) true ∧ mq_WK (T 1) (m 1) false ∧ mq_WK (T 2) (m 2) false
def mq_fS {α : Type} (T : Nat → Nat → α) (e i : Nat) (x : α) : Nat → Nat → α := fun e' i' => if e' = e ∧ i' = i then x else T e' i'
def mq_fE {α : Type} (T : Nat → α) (e : Nat) (x : α) : Nat → α := fun e' => if e' = e then x else T e'
theorem mq_ex_ln {m : Nat → Nat} {T C : Nat → Nat → Int32} {tk co ln : Nat → Int32} {e k : Nat} (h : mq_EX m T C tk co ln) (hk : k ≤ m e) (he : e < 4) : mq_EX (mq_nS m e k) T C tk co (upd ln e (nI k)) := by
  have h20 := (h.1 e he).1
  refine ⟨fun i hi => ?_, fun i hi j hj => ?_⟩
  · unfold mq_nS upd
    by_cases e1 : i = e
    · rw [if_pos e1, if_pos e1]; exact ⟨by omega, rfl⟩
    · rw [if_neg e1, if_neg e1]; exact h.1 i hi
  · unfold mq_nS at hj
    by_cases e1 : i = e
    · rw [if_pos e1] at hj
      subst e1
      exact h.2 i hi j (by omega)
    · rw [if_neg e1] at hj
      exact h.2 i hi j hj
theorem mq_ex_ad {m : Nat → Nat} {T C : Nat → Nat → Int32} {tk co ln : Nat → Int32} {x y : Int32} (h : mq_EX m T C tk co ln) (hm : m 3 < 20) :
    mq_EX (mq_nS m 3 (m 3 + 1)) (mq_fS T 3 (m 3) x) (mq_fS C 3 (m 3) y) (upd tk (60 + m 3) x) (upd co (60 + m 3) y) (upd ln 3 (nI (m 3 + 1))) := by
  refine ⟨fun i hi => ?_, fun i hi j hj => ?_⟩
  · unfold mq_nS upd
    by_cases e1 : i = 3
    · rw [if_pos e1, if_pos e1]; exact ⟨by omega, rfl⟩
    · rw [if_neg e1, if_neg e1]; exact h.1 i hi
  · have h20 := (h.1 i hi).1
    have h2 := h.2 i hi j
    unfold mq_nS at hj
    unfold mq_fS upd
    by_cases e1 : i = 3
    · rw [if_pos e1] at hj
      subst e1
      by_cases e2 : j = m 3
      · rw [if_pos (by omega), if_pos ⟨rfl, e2⟩, if_pos (by omega), if_pos ⟨rfl, e2⟩]
        exact ⟨rfl, rfl⟩
      · rw [if_neg (by omega), if_neg (fun q => e2 q.2), if_neg (by omega), if_neg (fun q => e2 q.2)]
        exact h2 (by omega)
    · rw [if_neg e1] at hj
      rw [if_neg (by omega), if_neg (fun q => e1 q.1), if_neg (by omega), if_neg (fun q => e1 q.1)]
      exact h2 hj
theorem mq_ei_ad {m : Nat → Nat} {T : Nat → Nat → Int32} {x : Int32} (h : mq_EI m T) (hx : x ∈ mq_tk) : mq_EI (mq_nS m 3 (m 3 + 1)) (mq_fS T 3 (m 3) x) := by
  have ht : ∀ e, e < 3 → mq_fS T 3 (m 3) x e = T e := by
    intro e he
    funext i
    exact if_neg (fun q => by omega)
  refine ⟨fun e he i hi => ?_, ?_, ?_, ?_⟩
  · unfold mq_nS at hi
    unfold mq_fS
    by_cases e1 : e = 3
    · rw [if_pos e1] at hi
      by_cases e2 : i = m 3
      · rw [if_pos ⟨e1, e2⟩]; exact hx
      · rw [if_neg (fun q => e2 q.2)]
        subst e1
        exact h.1 3 he i (by omega)
    · rw [if_neg e1] at hi
      rw [if_neg (fun q => e1 q.1)]
      exact h.1 e he i hi
  · rw [ht 0 (by omega)]; exact h.2.1
  · rw [ht 1 (by omega)]; exact h.2.2.1
  · rw [ht 2 (by omega)]; exact h.2.2.2
theorem mq_ei_0 {m : Nat → Nat} {T : Nat → Nat → Int32} (h : mq_EI m T) : mq_EI (mq_nS m 3 0) T := by
  refine ⟨fun e he i hi => ?_, h.2.1, h.2.2.1, h.2.2.2⟩
  unfold mq_nS at hi
  by_cases e1 : e = 3
  · rw [if_pos e1] at hi; omega
  · rw [if_neg e1] at hi; exact h.1 e he i hi
theorem mq_ei_us {m : Nat → Nat} {T : Nat → Nat → Int32} {w : Nat} (h : mq_EI m T) (hw : w < 3) (hk : mq_WK (T 3) (m 3) (decide (w = 0))) : mq_EI (mq_nS (mq_nS m w (m 3)) 3 0) (mq_fE T w (T 3)) := by
  have hm : ∀ e, e < 3 → mq_nS (mq_nS m w (m 3)) 3 0 e = if e = w then m 3 else m e := by
    intro e he
    exact if_neg (by omega)
  refine ⟨fun e he i hi => ?_, ?_, ?_, ?_⟩
  · by_cases e1 : e = 3
    · subst e1
      exact absurd hi (Nat.not_lt_zero i)
    · rw [hm e (by omega)] at hi
      unfold mq_fE
      by_cases e2 : e = w
      · rw [if_pos e2] at hi
        rw [if_pos e2]
        exact h.1 3 (by omega) i hi
      · rw [if_neg e2] at hi
        rw [if_neg e2]
        exact h.1 e he i hi
  · rw [hm 0 (by omega)]
    unfold mq_fE
    by_cases e2 : 0 = w
    · rw [if_pos e2, if_pos e2]; subst e2; exact hk
    · rw [if_neg e2, if_neg e2]; exact h.2.1
  · rw [hm 1 (by omega)]
    unfold mq_fE
    by_cases e2 : 1 = w
    · rw [if_pos e2, if_pos e2]; subst e2; exact hk
    · rw [if_neg e2, if_neg e2]; exact h.2.2.1
  · rw [hm 2 (by omega)]
    unfold mq_fE
    by_cases e2 : 2 = w
    · rw [if_pos e2, if_pos e2]; subst e2; exact hk
    · rw [if_neg e2, if_neg e2]; exact h.2.2.2
end MQR
