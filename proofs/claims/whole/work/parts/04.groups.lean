section MQG
/-! groups as the two sides hold them -/
def mq_kn : Option Int64 → Int64
  | none => 1
  | some _ => 0
def mq_kv : Option Int64 → Int64
  | none => 0
  | some x => x
def mq_kb : Option Int64 → Int32
  | none => 1
  | some _ => 0
def mq_bi (b : Bool) : Int32 := if b = true then 1 else 0
def mq_FX (s : MqG) (fa : Nat → Int64) : Prop := ∀ i, i < s.1 → fa (7 * i) = mq_kn (s.2.1 i) ∧ fa (7 * i + 1) = mq_kv (s.2.1 i) ∧ (s.2.2.2.1 = false → ∀ j, j < 5 → fa (7 * i + 2 + j) = s.2.2.1 i j)
def mq_FY (s : MqG) (gn : Nat → Int32) (gk gs : Nat → Int64) : Prop := ∀ i, i < s.1 → gn i = mq_kb (s.2.1 i) ∧ gk i = mq_kv (s.2.1 i) ∧ (s.2.2.2.1 = false → ∀ j, j < 5 → gs (5 * i + j) = s.2.2.1 i j)
theorem mq_add_c {x : Option Int64} {f f' : Nat → Int64} (h : ∀ k, k < 5 → f k = f' k) : ∀ j, j < 5 → mq_add x f j = mq_add x f' j := by
  intro j hj
  cases x with
  | none =>
    show (if j = 0 then f 0 + 1 else f j) = (if j = 0 then f' 0 + 1 else f' j)
    rw [h 0 (by omega), h j hj]
  | some x =>
    show (if j = 0 then f 0 + 1 else if j = 1 then f 1 + 1 else if j = 2 then f 2 + x else if j = 3 then (if f 1 = 0 ∨ x < f 3 then x else f 3) else if j = 4 then (if f 1 = 0 ∨ f 4 < x then x else f 4) else f j)
      = (if j = 0 then f' 0 + 1 else if j = 1 then f' 1 + 1 else if j = 2 then f' 2 + x else if j = 3 then (if f' 1 = 0 ∨ x < f' 3 then x else f' 3) else if j = 4 then (if f' 1 = 0 ∨ f' 4 < x then x else f' 4) else f' j)
    rw [h 0 (by omega), h 1 (by omega), h 2 (by omega), h 3 (by omega), h 4 (by omega), h j hj]
theorem mq_fx_up {s : MqG} {fa fa' : Nat → Int64} {p : Nat} {x : Option Int64} {c : Int32} (h : mq_FX s fa) (ho : ∀ j, (j < 7 * p + 2 ∨ 7 * p + 7 ≤ j) → fa' j = fa j)
    (hv : ∀ j, j < 5 → fa' (7 * p + 2 + j) = mq_add x (fun k => fa (7 * p + 2 + k)) j) :
    mq_FX (s.1, s.2.1, (if s.2.2.2.1 = true then s.2.2.1 else mq_upS p x s.2.2.1), s.2.2.2.1, c) fa' := by
  obtain ⟨n, K, S, b, c'⟩ := s
  intro i hi
  have h1 := h i hi
  dsimp only at h1 ⊢
  refine ⟨by rw [ho _ (by omega)]; exact h1.1, by rw [ho _ (by omega)]; exact h1.2.1, ?_⟩
  intro hb j hj
  have h2 := h1.2.2 hb
  rw [hb, if_neg (by decide)]
  unfold mq_upS
  by_cases e : i = p
  · rw [if_pos e]
    subst e
    rw [hv j hj]
    exact mq_add_c h2 j hj
  · rw [if_neg e, ho _ (by omega)]
    exact h2 j hj
theorem mq_fy_up {s : MqG} {gn : Nat → Int32} {gk gs gs' : Nat → Int64} {p : Nat} {x : Option Int64} {c : Int32} (h : mq_FY s gn gk gs) (hb : s.2.2.2.1 = false) (ho : ∀ j, (j < 5 * p ∨ 5 * p + 5 ≤ j) → gs' j = gs j)
    (hv : ∀ j, j < 5 → gs' (5 * p + j) = mq_add x (fun k => gs (5 * p + k)) j) :
    mq_FY (s.1, s.2.1, (if s.2.2.2.1 = true then s.2.2.1 else mq_upS p x s.2.2.1), s.2.2.2.1, c) gn gk gs' := by
  obtain ⟨n, K, S, b, c'⟩ := s
  intro i hi
  have h1 := h i hi
  dsimp only at h1 hb ⊢
  refine ⟨h1.1, h1.2.1, ?_⟩
  intro _ j hj
  have h2 := h1.2.2 hb
  rw [hb, if_neg (by decide)]
  unfold mq_upS
  by_cases e : i = p
  · rw [if_pos e]
    subst e
    rw [hv j hj]
    exact mq_add_c h2 j hj
  · rw [if_neg e, ho _ (by omega)]
    exact h2 j hj
/-! X: a group opened -/
def mq_xs (fa : Nat → Int64) (f hi : Nat) : Nat → Int64 := fun j => if f + 7 ≤ j ∧ j < hi + 7 then fa (j - 7) else fa j
theorem mq_xs_0 (fa : Nat → Int64) (hi : Nat) : mq_xs fa hi hi = fa := by
  funext j
  exact if_neg (by omega)
theorem mq_xs_s {fa : Nat → Int64} {f hi : Nat} (h : f < hi) : vp_updL (mq_xs fa (f + 1) hi) (f + 7) (mq_xs fa (f + 1) hi f) = mq_xs fa f hi := by
  funext j
  unfold mq_xs vp_updL
  by_cases e : j = f + 7
  · rw [if_pos e, if_neg (by omega), if_pos (by omega), e]
    exact congrArg fa (by omega)
  · rw [if_neg e]
    try dsimp only
    by_cases e2 : f + 1 + 7 ≤ j ∧ j < hi + 7
    · rw [if_pos e2, if_pos (by omega)]
    · rw [if_neg e2, if_neg (by omega)]
def mq_xz (fa : Nat → Int64) (st k : Nat) : Nat → Int64 := fun j => if st ≤ j ∧ j < st + k then 0 else fa j
theorem mq_xz_0 (fa : Nat → Int64) (st : Nat) : mq_xz fa st 0 = fa := by
  funext j
  exact if_neg (by omega)
theorem mq_xz_s {fa : Nat → Int64} {st k : Nat} : vp_updL (mq_xz fa st k) (st + k) 0 = mq_xz fa st (k + 1) := by
  funext j
  unfold mq_xz vp_updL
  by_cases e : j = st + k
  · rw [if_pos e, if_pos (by omega)]
  · rw [if_neg e]
    try dsimp only
    by_cases e2 : st ≤ j ∧ j < st + k
    · rw [if_pos e2, if_pos (by omega)]
    · rw [if_neg e2, if_neg (by omega)]
theorem mq_fx_in {n : Nat} {K : Nat → Option Int64} {S : Nat → Nat → Int64} {b : Bool} {c c' : Int32} {fa : Nat → Int64} {p : Nat} {q : Option Int64} (h : mq_FX (n, K, S, b, c) fa) (hp : p ≤ n) :
    mq_FX (n + 1, mq_ins K p q, mq_ins S p (fun _ => 0), b, c') (vp_updL (vp_updL (mq_xz (mq_xs fa (p * 7) (n * 7)) (p * 7) 7) (p * 7) (mq_kn q)) (p * 7 + 1) (mq_kv q)) := by
  intro i hi
  have hi : i < n + 1 := hi
  dsimp only
  by_cases h1 : i < p
  · have h2 := h i (by show i < n; omega)
    dsimp only at h2
    have hf : ∀ j, j < 7 → vp_updL (vp_updL (mq_xz (mq_xs fa (p * 7) (n * 7)) (p * 7) 7) (p * 7) (mq_kn q)) (p * 7 + 1) (mq_kv q) (7 * i + j) = fa (7 * i + j) := by
      intro j hj
      rw [pk_uLn (by omega), pk_uLn (by omega)]
      unfold mq_xz mq_xs
      rw [if_neg (by omega), if_neg (by omega)]
    rw [mq_ins_lo h1, mq_ins_lo h1]
    refine ⟨(hf 0 (by omega)).trans h2.1, (hf 1 (by omega)).trans h2.2.1, fun hb j hj => ?_⟩
    rw [Nat.add_assoc, hf (2 + j) (by omega), ← Nat.add_assoc]
    exact h2.2.2 hb j hj
  · by_cases h3 : i = p
    · subst h3
      rw [mq_ins_eq, mq_ins_eq]
      refine ⟨?_, ?_, fun hb j hj => ?_⟩
      · rw [pk_uLn (by omega), Nat.mul_comm 7 i, pk_uLs]
      · rw [Nat.mul_comm 7 i, pk_uLs]
      · rw [pk_uLn (by omega), pk_uLn (by omega)]
        unfold mq_xz
        rw [if_pos (by omega)]
    · have h2 := h (i - 1) (by show i - 1 < n; omega)
      dsimp only at h2
      have hf : ∀ j, j < 7 → vp_updL (vp_updL (mq_xz (mq_xs fa (p * 7) (n * 7)) (p * 7) 7) (p * 7) (mq_kn q)) (p * 7 + 1) (mq_kv q) (7 * i + j) = fa (7 * (i - 1) + j) := by
        intro j hj
        rw [pk_uLn (by omega), pk_uLn (by omega)]
        unfold mq_xz mq_xs
        rw [if_neg (by omega), if_pos (by omega)]
        exact congrArg fa (by omega)
      rw [mq_ins_hi (by omega), mq_ins_hi (by omega)]
      refine ⟨(hf 0 (by omega)).trans h2.1, (hf 1 (by omega)).trans h2.2.1, fun hb j hj => ?_⟩
      rw [Nat.add_assoc, hf (2 + j) (by omega), ← Nat.add_assoc]
      exact h2.2.2 hb j hj
/-! Y: groups moved up -/
def mq_sh {α : Type} (f : Nat → α) (p g : Nat) : Nat → α := fun j => if p < j ∧ j ≤ g then f (j - 1) else f j
theorem mq_sh_0 {α : Type} (f : Nat → α) (g : Nat) : mq_sh f g g = f := by
  funext j
  exact if_neg (by omega)
theorem mq_sh_s {f : Nat → Int32} {p g : Nat} (h : p < g) : upd (mq_sh f (p + 1) g) (p + 1) (mq_sh f (p + 1) g p) = mq_sh f p g := by
  funext j
  unfold mq_sh upd
  by_cases e : j = p + 1
  · rw [if_pos e, if_neg (by omega), if_pos (by omega), e]
    exact congrArg f (by omega)
  · rw [if_neg e]
    try dsimp only
    by_cases e2 : p + 1 < j ∧ j ≤ g
    · rw [if_pos e2, if_pos (by omega)]
    · rw [if_neg e2, if_neg (by omega)]
theorem mq_sh_sL {f : Nat → Int64} {p g : Nat} (h : p < g) : vp_updL (mq_sh f (p + 1) g) (p + 1) (mq_sh f (p + 1) g p) = mq_sh f p g := by
  funext j
  unfold mq_sh vp_updL
  by_cases e : j = p + 1
  · rw [if_pos e, if_neg (by omega), if_pos (by omega), e]
    exact congrArg f (by omega)
  · rw [if_neg e]
    try dsimp only
    by_cases e2 : p + 1 < j ∧ j ≤ g
    · rw [if_pos e2, if_pos (by omega)]
    · rw [if_neg e2, if_neg (by omega)]
theorem mq_sh_lo {α : Type} {f : Nat → α} {p g j : Nat} (h : j ≤ p) : mq_sh f p g j = f j := if_neg (by omega)
def mq_s5 (f : Nat → Int64) (p g : Nat) : Nat → Int64 := fun j => if 5 * p + 5 ≤ j ∧ j < 5 * g + 5 then f (j - 5) else f j
theorem mq_s5_0 (f : Nat → Int64) (g : Nat) : mq_s5 f g g = f := by
  funext j
  exact if_neg (by omega)
def mq_m5 (f : Nat → Int64) (t k : Nat) : Nat → Int64 := fun j => if 5 * t ≤ j ∧ j < 5 * t + k then f (j - 5) else f j
theorem mq_m5_0 (f : Nat → Int64) (t : Nat) : mq_m5 f t 0 = f := by
  funext j
  exact if_neg (by omega)
theorem mq_m5_s {f : Nat → Int64} {t k : Nat} (hk : k < 5) : vp_updL (mq_m5 f (t + 1) k) (5 * (t + 1) + k) (mq_m5 f (t + 1) k (5 * t + k)) = mq_m5 f (t + 1) (k + 1) := by
  funext j
  unfold mq_m5 vp_updL
  by_cases e : j = 5 * (t + 1) + k
  · rw [if_pos e, if_neg (by omega), if_pos (by omega), e]
    exact congrArg f (by omega)
  · rw [if_neg e]
    try dsimp only
    by_cases e2 : 5 * (t + 1) ≤ j ∧ j < 5 * (t + 1) + k
    · rw [if_pos e2, if_pos (by omega)]
    · rw [if_neg e2, if_neg (by omega)]
theorem mq_m5_5 {f : Nat → Int64} {p g : Nat} (h : p < g) : mq_m5 (mq_s5 f (p + 1) g) (p + 1) 5 = mq_s5 f p g := by
  funext j
  unfold mq_m5 mq_s5
  by_cases e : 5 * (p + 1) ≤ j ∧ j < 5 * (p + 1) + 5
  · rw [if_pos e, if_neg (by omega), if_pos (by omega)]
  · rw [if_neg e]
    try dsimp only
    by_cases e2 : 5 * (p + 1) + 5 ≤ j ∧ j < 5 * g + 5
    · rw [if_pos e2, if_pos (by omega)]
    · rw [if_neg e2, if_neg (by omega)]
theorem mq_fy_in {n : Nat} {K : Nat → Option Int64} {S : Nat → Nat → Int64} {b : Bool} {c c' : Int32} {gn : Nat → Int32} {gk gs : Nat → Int64} {p : Nat} {q : Option Int64} (h : mq_FY (n, K, S, b, c) gn gk gs) (hp : p ≤ n) :
    mq_FY (n + 1, mq_ins K p q, mq_ins S p (fun _ => 0), b, c') (upd (mq_sh gn p n) p (mq_kb q)) (vp_updL (mq_sh gk p n) p (mq_kv q)) (mq_xz (mq_s5 gs p n) (5 * p) 5) := by
  intro i hi
  have hi : i < n + 1 := hi
  dsimp only
  by_cases h1 : i < p
  · have h2 := h i (by show i < n; omega)
    dsimp only at h2
    rw [mq_ins_lo h1, mq_ins_lo h1, pk_un (by omega), pk_uLn (by omega), mq_sh_lo (by omega), mq_sh_lo (by omega)]
    refine ⟨h2.1, h2.2.1, fun hb j hj => ?_⟩
    rw [← h2.2.2 hb j hj]
    unfold mq_xz mq_s5
    rw [if_neg (by omega), if_neg (by omega)]
  · by_cases h3 : i = p
    · subst h3
      rw [mq_ins_eq, mq_ins_eq, pk_us, pk_uLs]
      refine ⟨rfl, rfl, fun hb j hj => ?_⟩
      unfold mq_xz
      rw [if_pos (by omega)]
    · have h2 := h (i - 1) (by show i - 1 < n; omega)
      dsimp only at h2
      have e1 : mq_sh gn p n i = gn (i - 1) := if_pos (by omega)
      have e2 : mq_sh gk p n i = gk (i - 1) := if_pos (by omega)
      rw [mq_ins_hi (by omega), mq_ins_hi (by omega), pk_un (by omega), pk_uLn (by omega), e1, e2]
      refine ⟨h2.1, h2.2.1, fun hb j hj => ?_⟩
      rw [← h2.2.2 hb j hj]
      unfold mq_xz mq_s5
      rw [if_neg (by omega), if_pos (by omega)]
      exact congrArg gs (by omega)
end MQG
