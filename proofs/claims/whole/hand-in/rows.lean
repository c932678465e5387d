section
section MQN
/-! rows pasted from kit/rows/PURE-ROWS, then numbers of my own -/
theorem pk_us {f : Nat → Int32} {k : Nat} {x : Int32} : upd f k x k = x := if_pos rfl
theorem pk_un {f : Nat → Int32} {k j : Nat} {x : Int32} (h : j ≠ k) : upd f k x j = f j := if_neg h
theorem pk_uLs {f : Nat → Int64} {k : Nat} {x : Int64} : vp_updL f k x k = x := if_pos rfl
theorem pk_uLn {f : Nat → Int64} {k j : Nat} {x : Int64} (h : j ≠ k) : vp_updL f k x j = f j := if_neg h
theorem pk_sub {a b : Nat} (h : b ≤ a) : nI a - nI b = nI (a - b) := by
  obtain ⟨c, rfl⟩ : ∃ c, a = c + b := ⟨a - b, by omega⟩
  rw [← nI_add, Int32.add_sub_cancel, Nat.add_sub_cancel]
theorem pk_m1 (n : Nat) : nI (n + 1) + (-1) = nI n := by
  rw [← nI_1, Int32.add_assoc, show (1 : Int32) + (-1) = 0 from rfl, Int32.add_zero]
theorem pk_mul (a b : Nat) : nI a * nI b = nI (a * b) := (Int32.ofNat_mul a b).symm
theorem pk_div {a d : Nat} (ha : a < 2 ^ 31) (h0 : 0 < d) (hd : d < 2 ^ 31) : nI a / nI d = nI (a / d) := by
  apply Int32.toInt_inj.mp
  rw [lg_idiv_nonneg (by rw [nI_toInt ha]; omega) (by rw [nI_toInt hd]; omega), nI_toInt ha, nI_toInt hd, nI_toInt (Nat.lt_of_le_of_lt (Nat.div_le_self a d) ha)]
  first | rfl | exact (Int.natCast_ediv _ _).symm
theorem pk_rem {a d : Nat} (ha : a < 2 ^ 31) (h0 : 0 < d) (hd : d < 2 ^ 31) : nI a - nI a / nI d * nI d = nI (a % d) := by
  rw [pk_div ha h0 hd, pk_mul, pk_sub (Nat.div_mul_le_self a d)]
  exact congrArg nI (by have := Nat.div_add_mod' a d; omega)
theorem pk_ix (x : Int32) {n : Nat} (hn : n < 2 ^ 31) : x < 0 ∨ nI n ≤ x ∨ ∃ j : Nat, j < n ∧ x = nI j := by
  by_cases h : x < 0
  · exact Or.inl h
  · obtain ⟨j, hj, rfl⟩ := nI_of h
    by_cases h2 : j < n
    · exact Or.inr (Or.inr ⟨j, h2, rfl⟩)
    · exact Or.inr (Or.inl (nI_le (by omega) hj))
theorem pk_le {x y : Int32} {A B : Prop} (a b : Nat) (f : a ≤ b → A) (g : b < a → B) (hx : x = nI a := by rfl) (hy : y = nI b := by rfl) (ha : a < 2 ^ 31 := by omega) (hb : b < 2 ^ 31 := by omega) : (x ≤ y → A) ∧ (¬ x ≤ y → B) := by
  subst hx hy
  rw [nI_leI ha hb]
  exact ⟨f, fun z => g (by omega)⟩
theorem pk_lt {x y : Int32} {A B : Prop} (a b : Nat) (f : a < b → A) (g : b ≤ a → B) (hx : x = nI a := by rfl) (hy : y = nI b := by rfl) (ha : a < 2 ^ 31 := by omega) (hb : b < 2 ^ 31 := by omega) : (x < y → A) ∧ (¬ x < y → B) := by
  subst hx hy
  rw [nI_ltI ha hb]
  exact ⟨f, fun z => g (by omega)⟩
theorem pk_eq {x y : Int32} {A B : Prop} (a b : Nat) (f : a = b → A) (g : a ≠ b → B) (hx : x = nI a := by rfl) (hy : y = nI b := by rfl) (ha : a < 2 ^ 31 := by omega) (hb : b < 2 ^ 31 := by omega) : (x = y → A) ∧ (¬ x = y → B) := by
  subst hx hy
  rw [nI_eq ha hb]
  exact ⟨f, g⟩
theorem pk_in {x : Int32} (n N : Nat) (h : n < N) (hx : x = nI n := by rfl) (hN : N < 2 ^ 31 := by omega) : vp_in x N := by
  subst hx
  exact vp_in_nI h hN
theorem pk_cl {x : Int32} (n : Nat) (hx : x = nI n := by rfl) (h : n < 2 ^ 31 := by omega) : x.toNatClampNeg = n := by
  subst hx
  exact nI_clamp h
theorem pk_loop {σ : Type} (W : Nat → Nat → σ → Prop) (I : Nat → σ → Prop) (e i0 : Nat) (s : σ) (hi : i0 ≤ e) (h0 : I i0 s) (hx : ∀ n s, I e s → W (n + 1) e s)
    (hs : ∀ n i s, i < e → I i s → (∀ s', I (i + 1) s' → W n (i + 1) s') → W (n + 1) i s) : ∃ n, W n i0 s :=
  ⟨e + 1, loop_i W I e hx hs (e + 1) i0 s hi (by omega) h0⟩
theorem pk_loopD {σ : Type} (W : Nat → Nat → σ → Prop) (I : Nat → σ → Prop) (hx : ∀ n s, I 0 s → W (n + 1) 0 s)
    (hs : ∀ n i s, I (i + 1) s → (∀ s', I i s' → W n i s') → W (n + 1) (i + 1) s) : ∀ (e : Nat) (s : σ), I e s → W (e + 1) e s := by
  intro e
  induction e with
  | zero => exact fun s h => hx 0 s h
  | succ e ih => exact fun s h => hs (e + 1) e s h (fun s' h' => ih s' h')
theorem lp1 {A1 : Type} (W : Nat → A1 → Prop) (I : A1 → Prop) (μ : A1 → Nat) (hs : ∀ (n : Nat) (a1 : A1), I a1 → (∀ (b1 : A1), I b1 → μ b1 < μ a1 → W n b1) → W (n + 1) a1) (a1 : A1) (h : I a1) : ∃ n, W n a1 :=
  loop_m (σ := A1) (fun n s => W n s) (fun s => I s) (fun s => μ s) (fun n s hI hk => hs n s hI (fun b1 h9 hm => hk b1 h9 hm)) a1 h
theorem lp2 {A1 A2 : Type} (W : Nat → A1 → A2 → Prop) (I : A1 → A2 → Prop) (μ : A1 → A2 → Nat) (hs : ∀ (n : Nat) (a1 : A1) (a2 : A2), I a1 a2 → (∀ (b1 : A1) (b2 : A2), I b1 b2 → μ b1 b2 < μ a1 a2 → W n b1 b2) → W (n + 1) a1 a2) (a1 : A1) (a2 : A2) (h : I a1 a2) : ∃ n, W n a1 a2 :=
  loop_m (σ := A1 × A2) (fun n s => W n s.1 s.2) (fun s => I s.1 s.2) (fun s => μ s.1 s.2) (fun n s hI hk => hs n s.1 s.2 hI (fun b1 b2 h9 hm => hk (b1, b2) h9 hm)) (a1, a2) h
theorem lp3 {A1 A2 A3 : Type} (W : Nat → A1 → A2 → A3 → Prop) (I : A1 → A2 → A3 → Prop) (μ : A1 → A2 → A3 → Nat) (hs : ∀ (n : Nat) (a1 : A1) (a2 : A2) (a3 : A3), I a1 a2 a3 → (∀ (b1 : A1) (b2 : A2) (b3 : A3), I b1 b2 b3 → μ b1 b2 b3 < μ a1 a2 a3 → W n b1 b2 b3) → W (n + 1) a1 a2 a3) (a1 : A1) (a2 : A2) (a3 : A3) (h : I a1 a2 a3) : ∃ n, W n a1 a2 a3 :=
  loop_m (σ := A1 × A2 × A3) (fun n s => W n s.1 s.2.1 s.2.2) (fun s => I s.1 s.2.1 s.2.2) (fun s => μ s.1 s.2.1 s.2.2) (fun n s hI hk => hs n s.1 s.2.1 s.2.2 hI (fun b1 b2 b3 h9 hm => hk (b1, b2, b3) h9 hm)) (a1, a2, a3) h
theorem ek_if {c d A B : Prop} (e : c ↔ d) (f : d → A) (g : ¬ d → B) : (c → A) ∧ (¬ c → B) :=
  ⟨fun z => f (e.mp z), fun z => g (fun y => z (e.mpr y))⟩
theorem ek_v {α : Sort _} {P : α → Prop} {a b : α} (e : a = b) (h : P b) : P a := e ▸ h
theorem mn_ns (n : Nat) : nI n - 1 = nI n + (-1) := Int32.sub_eq_add_neg _ _
theorem mn_m {n : Nat} (h : 0 < n) : nI n + (-1) = nI (n - 1) := by
  obtain ⟨m, rfl⟩ : ∃ m, n = m + 1 := ⟨n - 1, by omega⟩
  exact pk_m1 m
theorem mn_s {n : Nat} (h : 0 < n) : nI n - 1 = nI (n - 1) := by rw [mn_ns, mn_m h]
theorem mn_0m : nI 0 + (-1) = -1 := by decide
theorem mn_mlt : (-1 : Int32) < 0 := by decide
theorem mn_n1 {a : Nat} (h : a < 2 ^ 31) : ¬ nI a = -1 := by
  intro e
  have := nI_pos (n := a) h
  rw [e] at this
  exact this mn_mlt
theorem mn_add {x y : Int32} (a b : Nat) (hx : x = nI a := by rfl) (hy : y = nI b := by rfl) : x + y = nI (a + b) := by
  subst hx hy; exact nI_add a b
theorem mn_mul {x y : Int32} (a b : Nat) (hx : x = nI a := by rfl) (hy : y = nI b := by rfl) : x * y = nI (a * b) := by
  subst hx hy; exact pk_mul a b
theorem mn_lt0 {x : Int32} (h : x < 0) : ∀ n : Nat, n < 2 ^ 31 → ¬ x = nI n := by
  intro n hn e
  rw [e] at h
  exact nI_pos hn h
theorem mn_b0 : vp_nar .boolean 0 = 0 := by decide
theorem mn_b1 : vp_nar .boolean 1 = 1 := by decide
theorem mn_nn {P : Prop} (h : P) : ¬ ¬ P := fun z => z h
end MQN
end
section
section MQP
/-! tokens: operands, kinds -/
def mq_ar (t : Int32) : Nat := if t ≤ 5 ∨ t = 40 then 0 else if t = 15 ∨ t = 32 ∨ t = 33 then 1 else if t = 34 then 3 else 2
def mq_tr (t : Int32) : Bool := decide (20 ≤ t) && decide (t ≤ 33)
def mq_wt (t : Int32) (k : Nat) : Bool := decide (t = 30) || decide (t = 31) || decide (t = 32) || (decide (t = 34) && decide (k = 0))
def mq_tk : List Int32 := [0, 1, 2, 3, 4, 5, 10, 11, 12, 13, 14, 15, 16, 20, 21, 22, 23, 30, 31, 32, 33, 34, 40]
def mq_lf (v : Int32) : Option Int64 := if v = -2147483648 then none else some v.toInt64
def mq_b2 (f : Int64 → Int64 → Option Int64) : Option Int64 → Option Int64 → Option Int64
  | some x, some y => f x y
  | _, _ => none
def mq_op (t : Int32) (a b c : Option Int64) : Option Int64 :=
  if t = 10 then mq_b2 (fun x y => some (x + y)) a b
  else if t = 11 then mq_b2 (fun x y => some (x - y)) a b
  else if t = 12 then mq_b2 (fun x y => some (x * y)) a b
  else if t = 13 then mq_b2 (fun x y => if y = 0 then none else some (x / y)) a b
  else if t = 14 then mq_b2 (fun x y => if y = 0 then none else some (x - x / y * y)) a b
  else if t = 15 then mq_b2 (fun x _ => some (-x)) a a
  else if t = 16 then (if a = none then b else a)
  else if t = 20 then mq_b2 (fun x y => some (if x = y then 1 else 0)) a b
  else if t = 21 then mq_b2 (fun x y => some (if x < y then 1 else 0)) a b
  else if t = 22 then mq_b2 (fun x y => some (if x ≤ y then 1 else 0)) a b
  else if t = 23 then mq_b2 (fun x y => some (if x = y then 0 else 1)) a b
  else if t = 30 then (if a = some 0 ∨ b = some 0 then some 0 else if a = none ∨ b = none then none else some 1)
  else if t = 31 then (if a = some 1 ∨ b = some 1 then some 1 else if a = none ∨ b = none then none else some 0)
  else if t = 32 then mq_b2 (fun x _ => some (if x = 0 then 1 else 0)) a a
  else if t = 33 then (if a = none then some 1 else some 0)
  else (if a = some 1 then b else c)
def mq_val (t c : Int32) (P : Nat → Int32) (x y z : Option Int64) : Option Int64 :=
  if t = 40 then mq_lf c else if t ≤ 5 then mq_lf (P t.toNatClampNeg) else mq_op t x y z
/-! the stack after d tokens, read from the end; numbered from its bottom -/
def mq_h (T : Nat → Int32) (len : Nat) : Nat → Nat
  | 0 => 0
  | d + 1 => mq_h T len d - mq_ar (T (len - 1 - d)) + 1
def mq_k (T : Nat → Int32) (len : Nat) : Nat → Nat → Bool
  | 0 => fun _ => false
  | d + 1 => fun j => if j = mq_h T len d - mq_ar (T (len - 1 - d)) then mq_tr (T (len - 1 - d)) else mq_k T len d j
def mq_v (T C P : Nat → Int32) (len : Nat) : Nat → Nat → Option Int64
  | 0 => fun _ => none
  | d + 1 => fun j => if j = mq_h T len d - mq_ar (T (len - 1 - d)) then
      mq_val (T (len - 1 - d)) (C (len - 1 - d)) P (mq_v T C P len d (mq_h T len d - 1)) (mq_v T C P len d (mq_h T len d - 2)) (mq_v T C P len d (mq_h T len d - 3))
    else mq_v T C P len d j
def mq_ok (T : Nat → Int32) (len d : Nat) : Prop :=
  mq_ar (T (len - 1 - d)) ≤ mq_h T len d ∧ ∀ k, k < mq_ar (T (len - 1 - d)) → mq_k T len d (mq_h T len d - 1 - k) = mq_wt (T (len - 1 - d)) k
def mq_WK (T : Nat → Int32) (len : Nat) (b : Bool) : Prop := (∀ d, d < len → mq_ok T len d) ∧ mq_h T len len = 1 ∧ mq_k T len len 0 = b
def mq_ev (T C P : Nat → Int32) (len : Nat) : Option Int64 := mq_v T C P len len 0
def mq_tt (v : Option Int64) : Prop := v = none ∨ v = some 0 ∨ v = some 1
theorem mq_h_le (T : Nat → Int32) (len : Nat) : ∀ d, mq_h T len d ≤ d := by
  intro d
  induction d with
  | zero => exact Nat.le_refl 0
  | succ d ih => show mq_h T len d - _ + 1 ≤ d + 1; omega
theorem mq_h_s (T : Nat → Int32) (len d : Nat) : mq_h T len (d + 1) = mq_h T len d - mq_ar (T (len - 1 - d)) + 1 := rfl
theorem mq_ar3 (t : Int32) : mq_ar t ≤ 3 := by
  unfold mq_ar
  split
  · omega
  · split
    · omega
    · split <;> omega
theorem mq_tt_if {p : Prop} [Decidable p] : mq_tt (some (if p then 1 else 0)) := by
  by_cases h : p
  · rw [if_pos h]; exact Or.inr (Or.inr rfl)
  · rw [if_neg h]; exact Or.inr (Or.inl rfl)
theorem mq_tt_if' {p : Prop} [Decidable p] : mq_tt (some (if p then 0 else 1)) := by
  by_cases h : p
  · rw [if_pos h]; exact Or.inr (Or.inl rfl)
  · rw [if_neg h]; exact Or.inr (Or.inr rfl)
theorem mq_tt_b2 {f : Int64 → Int64 → Option Int64} (h : ∀ x y, mq_tt (f x y)) (a b : Option Int64) : mq_tt (mq_b2 f a b) := by
  cases a with
  | none => exact Or.inl rfl
  | some x =>
    cases b with
    | none => exact Or.inl rfl
    | some y => exact h x y
theorem mq_tt_op {t : Int32} (ht : t ∈ mq_tk) (hk : mq_tr t = true) (c : Int32) (P : Nat → Int32) (x y z : Option Int64) : mq_tt (mq_val t c P x y z) := by
  have h8 : t = 20 ∨ t = 21 ∨ t = 22 ∨ t = 23 ∨ t = 30 ∨ t = 31 ∨ t = 32 ∨ t = 33 := by
    revert t
    decide +kernel
  rcases h8 with rfl | rfl | rfl | rfl | rfl | rfl | rfl | rfl
  · exact mq_tt_b2 (fun _ _ => mq_tt_if) x y
  · exact mq_tt_b2 (fun _ _ => mq_tt_if) x y
  · exact mq_tt_b2 (fun _ _ => mq_tt_if) x y
  · exact mq_tt_b2 (fun _ _ => mq_tt_if') x y
  · show mq_tt (if x = some 0 ∨ y = some 0 then some 0 else if x = none ∨ y = none then none else some 1)
    split
    · exact Or.inr (Or.inl rfl)
    · split
      · exact Or.inl rfl
      · exact Or.inr (Or.inr rfl)
  · show mq_tt (if x = some 1 ∨ y = some 1 then some 1 else if x = none ∨ y = none then none else some 0)
    split
    · exact Or.inr (Or.inr rfl)
    · split
      · exact Or.inl rfl
      · exact Or.inr (Or.inl rfl)
  · exact mq_tt_b2 (fun _ _ => mq_tt_if) x x
  · show mq_tt (if x = none then some 1 else some 0)
    split
    · exact Or.inr (Or.inr rfl)
    · exact Or.inr (Or.inl rfl)
/-- kinds hold: where a truth stands, the value is a truth -/
theorem mq_ty {T C P : Nat → Int32} {len : Nat} (hT : ∀ i, i < len → T i ∈ mq_tk) : ∀ d, d ≤ len → ∀ j, mq_k T len d j = true → mq_tt (mq_v T C P len d j) := by
  intro d
  induction d with
  | zero => intro _ j h; exact absurd h (by show ¬ (false = true); decide)
  | succ d ih =>
    intro hd j h
    have h1 : (if j = mq_h T len d - mq_ar (T (len - 1 - d)) then mq_tr (T (len - 1 - d)) else mq_k T len d j) = true := h
    show mq_tt (if j = mq_h T len d - mq_ar (T (len - 1 - d)) then _ else mq_v T C P len d j)
    by_cases e : j = mq_h T len d - mq_ar (T (len - 1 - d))
    · rw [if_pos e] at h1
      rw [if_pos e]
      exact mq_tt_op (hT _ (by omega)) h1 _ _ _ _ _
    · rw [if_neg e] at h1
      rw [if_neg e]
      exact ih (by omega) j h1
/-! groups: the order of keys, the place of a key -/
def mq_lt : Option Int64 → Option Int64 → Bool
  | none, some _ => true
  | some a, some b => decide (a < b)
  | _, none => false
theorem mq_lt_ir (a : Option Int64) : mq_lt a a = false := by
  cases a with
  | none => rfl
  | some x => show decide (x < x) = false; exact decide_eq_false (Int64.lt_irrefl)
theorem mq_lt_tr {a b c : Option Int64} (h1 : mq_lt a b = true) (h2 : mq_lt b c = true) : mq_lt a c = true := by
  cases c with
  | none => cases b <;> exact Bool.noConfusion h2
  | some z =>
    cases b with
    | none => cases a <;> exact Bool.noConfusion h1
    | some y =>
      cases a with
      | none => rfl
      | some x =>
        have e1 : x < y := of_decide_eq_true h1
        have e2 : y < z := of_decide_eq_true h2
        exact decide_eq_true (Int64.lt_trans e1 e2)
theorem mq_lt_to {a b : Option Int64} (h : a ≠ b) (h1 : mq_lt a b = false) : mq_lt b a = true := by
  cases a with
  | none =>
    cases b with
    | none => exact absurd rfl h
    | some y => exact absurd h1 (by show ¬ (true = false); decide)
  | some x =>
    cases b with
    | none => rfl
    | some y =>
      have e1 : ¬ x < y := of_decide_eq_false h1
      apply decide_eq_true
      have hne : x ≠ y := fun e => h (by rw [e])
      rw [Int64.lt_iff_toInt_lt] at e1
      rw [Int64.lt_iff_toInt_lt]
      have : x.toInt ≠ y.toInt := fun e => hne (Int64.toInt_inj.mp e)
      omega
def mq_srt (n : Nat) (K : Nat → Option Int64) : Prop := ∀ i j, i < j → j < n → mq_lt (K i) (K j) = true
def mq_plc (K : Nat → Option Int64) (q : Option Int64) : Nat → Nat
  | 0 => 0
  | i + 1 => if mq_lt (K i) q = true then i + 1 else mq_plc K q i
theorem mq_plc_le (K : Nat → Option Int64) (q : Option Int64) : ∀ n, mq_plc K q n ≤ n := by
  intro n
  induction n with
  | zero => exact Nat.le_refl 0
  | succ n ih =>
    show (if mq_lt (K n) q = true then n + 1 else mq_plc K q n) ≤ n + 1
    split <;> omega
theorem mq_plc_hi {K : Nat → Option Int64} {q : Option Int64} : ∀ n i, mq_plc K q n ≤ i → i < n → mq_lt (K i) q = false := by
  intro n
  induction n with
  | zero => intro i _ h; omega
  | succ n ih =>
    intro i h1 h2
    have h3 : (if mq_lt (K n) q = true then n + 1 else mq_plc K q n) ≤ i := h1
    by_cases e : mq_lt (K n) q = true
    · rw [if_pos e] at h3; omega
    · rw [if_neg e] at h3
      by_cases e2 : i = n
      · rw [e2]; exact Bool.eq_false_iff.mpr e
      · exact ih i h3 (by omega)
theorem mq_plc_lo {K : Nat → Option Int64} {q : Option Int64} : ∀ n, mq_srt n K → ∀ i, i < mq_plc K q n → mq_lt (K i) q = true := by
  intro n
  induction n with
  | zero => intro _ i h; exact absurd h (Nat.not_lt_zero i)
  | succ n ih =>
    intro hs i h
    have h3 : i < (if mq_lt (K n) q = true then n + 1 else mq_plc K q n) := h
    by_cases e : mq_lt (K n) q = true
    · rw [if_pos e] at h3
      by_cases e2 : i = n
      · rw [e2]; exact e
      · exact mq_lt_tr (hs i n (by omega) (by omega)) e
    · rw [if_neg e] at h3
      exact ih (fun a b hab hb => hs a b hab (by omega)) i h3
theorem mq_plc_eq {K : Nat → Option Int64} {q : Option Int64} {n i : Nat} (hs : mq_srt n K) (hi : i < n) (e : K i = q) : mq_plc K q n = i := by
  have h1 : ¬ i < mq_plc K q n := by
    intro h
    have := mq_plc_lo n hs i h
    rw [e, mq_lt_ir] at this
    exact absurd this (by decide)
  by_cases h2 : mq_plc K q n < i
  · have h3 := mq_plc_hi n (mq_plc K q n) (Nat.le_refl _) (by omega)
    have h4 := hs (mq_plc K q n) i h2 hi
    rw [e, h3] at h4
    exact absurd h4 (by decide)
  · omega
def mq_ins {α : Type} (f : Nat → α) (p : Nat) (x : α) : Nat → α := fun j => if j < p then f j else if j = p then x else f (j - 1)
theorem mq_ins_lo {α : Type} {f : Nat → α} {p j : Nat} {x : α} (h : j < p) : mq_ins f p x j = f j := if_pos h
theorem mq_ins_eq {α : Type} {f : Nat → α} {p : Nat} {x : α} : mq_ins f p x p = x := by
  show (if p < p then f p else if p = p then x else f (p - 1)) = x
  rw [if_neg (Nat.lt_irrefl p), if_pos rfl]
theorem mq_ins_hi {α : Type} {f : Nat → α} {p j : Nat} {x : α} (h : p < j) : mq_ins f p x j = f (j - 1) := by
  show (if j < p then f j else if j = p then x else f (j - 1)) = f (j - 1)
  rw [if_neg (by omega), if_neg (by omega)]
theorem mq_srt_ins {n : Nat} {K : Nat → Option Int64} {q : Option Int64} (hs : mq_srt n K) (hq : ∀ i, i < n → K i ≠ q) : mq_srt (n + 1) (mq_ins K (mq_plc K q n) q) := by
  intro i j hij hj
  have hp := mq_plc_le K q n
  have hlo := mq_plc_lo (q := q) n hs
  have hhi := mq_plc_hi (K := K) (q := q) n
  generalize mq_plc K q n = p at hp hlo hhi
  by_cases h1 : j < p
  · rw [mq_ins_lo h1, mq_ins_lo (by omega)]
    exact hs i j hij (by omega)
  · by_cases h2 : j = p
    · rw [h2, mq_ins_eq, mq_ins_lo (by omega)]
      exact hlo i (by omega)
    · rw [mq_ins_hi (j := j) (by omega)]
      by_cases h3 : i < p
      · rw [mq_ins_lo h3]
        exact hs i (j - 1) (by omega) (by omega)
      · by_cases h4 : i = p
        · rw [h4, mq_ins_eq]
          exact mq_lt_to (hq (j - 1) (by omega)) (hhi (j - 1) (by omega) (by omega))
        · rw [mq_ins_hi (by omega)]
          exact hs (i - 1) (j - 1) (by omega) (by omega)
/-! the groups of a run: number, keys, facts (pairs, values, sum, least, greatest), too many, passed -/
abbrev MqG : Type := Nat × (Nat → Option Int64) × (Nat → Nat → Int64) × Bool × Int32
def mq_add (x : Option Int64) (f : Nat → Int64) : Nat → Int64 := match x with
  | none => fun s => if s = 0 then f 0 + 1 else f s
  | some x => fun s => if s = 0 then f 0 + 1 else if s = 1 then f 1 + 1 else if s = 2 then f 2 + x
      else if s = 3 then (if f 1 = 0 ∨ x < f 3 then x else f 3) else if s = 4 then (if f 1 = 0 ∨ f 4 < x then x else f 4) else f s
def mq_upS (p : Nat) (x : Option Int64) (S : Nat → Nat → Int64) : Nat → Nat → Int64 := fun i => if i = p then mq_add x (S i) else S i
/-- one passing pair with key q and value x -/
def mq_hit (q x : Option Int64) (s : MqG) : MqG :=
  if mq_plc s.2.1 q s.1 < s.1 ∧ s.2.1 (mq_plc s.2.1 q s.1) = q then
    (s.1, s.2.1, (if s.2.2.2.1 = true then s.2.2.1 else mq_upS (mq_plc s.2.1 q s.1) x s.2.2.1), s.2.2.2.1, s.2.2.2.2 + 1)
  else if 12 ≤ s.1 then (s.1, s.2.1, s.2.2.1, true, s.2.2.2.2 + 1)
  else (s.1 + 1, mq_ins s.2.1 (mq_plc s.2.1 q s.1) q, (if s.2.2.2.1 = true then mq_ins s.2.2.1 (mq_plc s.2.1 q s.1) (fun _ => 0) else mq_upS (mq_plc s.2.1 q s.1) x (mq_ins s.2.2.1 (mq_plc s.2.1 q s.1) (fun _ => 0))), s.2.2.2.1, s.2.2.2.2 + 1)
def mq_pair (f q x : Option Int64) (s : MqG) : MqG := if f = some 1 then mq_hit q x s else s
def mq_gi (s : MqG) : Prop := s.1 ≤ 12 ∧ mq_srt s.1 s.2.1
theorem mq_gi_hit {q x : Option Int64} {s : MqG} (h : mq_gi s) : mq_gi (mq_hit q x s) := by
  obtain ⟨n, K, S, b, c⟩ := s
  obtain ⟨h1, h2⟩ := h
  have h1 : n ≤ 12 := h1
  have h2 : mq_srt n K := h2
  unfold mq_hit
  dsimp only
  split
  · exact ⟨h1, h2⟩
  · split
    · exact ⟨h1, h2⟩
    · rename_i h3 h4
      refine ⟨by show n + 1 ≤ 12; omega, mq_srt_ins h2 ?_⟩
      intro i hi e
      have := mq_plc_eq h2 hi e
      exact h3 ⟨by omega, by rw [this]; exact e⟩
theorem mq_gi_pair {f q x : Option Int64} {s : MqG} (h : mq_gi s) : mq_gi (mq_pair f q x s) := by
  unfold mq_pair
  split
  · exact mq_gi_hit h
  · exact h
end MQP
end
section
section MQR
/-! the run, purely -/
def mq_P (D : Nat → Nat → Int32) (i : Nat) (j : Option Nat) : Nat → Int32 := fun c => if c < 3 then D c i else match j with
  | none => -2147483648
  | some j => D c j
def mq_q (m : Nat → Nat) (T C : Nat → Nat → Int32) (P : Nat → Int32) (s : MqG) : MqG :=
  mq_pair (mq_ev (T 0) (C 0) P (m 0)) (mq_ev (T 2) (C 2) P (m 2)) (mq_ev (T 1) (C 1) P (m 1)) s
def mq_jn (m : Nat → Nat) (T C D : Nat → Nat → Int32) (l r i : Nat) (s : MqG) : Nat → MqG × Bool
  | 0 => (s, false)
  | j + 1 => if D l i ≠ -2147483648 ∧ D l i = D r j then (mq_q m T C (mq_P D i (some j)) (mq_jn m T C D l r i s j).1, true) else mq_jn m T C D l r i s j
def mq_row (m : Nat → Nat) (T C D : Nat → Nat → Int32) (n1 mo l r i : Nat) (s : MqG) : MqG :=
  if mo = 0 then mq_q m T C (mq_P D i none) s
  else if mo = 1 ∨ (mq_jn m T C D l r i s n1).2 = true then (mq_jn m T C D l r i s n1).1
  else mq_q m T C (mq_P D i none) (mq_jn m T C D l r i s n1).1
def mq_rows (m : Nat → Nat) (T C D : Nat → Nat → Int32) (n1 mo l r : Nat) : Nat → MqG
  | 0 => (0, fun _ => none, fun _ _ => 0, false, 0)
  | i + 1 => mq_row m T C D n1 mo l r i (mq_rows m T C D n1 mo l r i)
theorem mq_gi_q {m : Nat → Nat} {T C : Nat → Nat → Int32} {P : Nat → Int32} {s : MqG} (h : mq_gi s) : mq_gi (mq_q m T C P s) := mq_gi_pair h
theorem mq_gi_jn {m : Nat → Nat} {T C D : Nat → Nat → Int32} {l r i : Nat} {s : MqG} (h : mq_gi s) : ∀ j, mq_gi (mq_jn m T C D l r i s j).1 := by
  intro j
  induction j with
  | zero => exact h
  | succ j ih =>
    show mq_gi (if D l i ≠ -2147483648 ∧ D l i = D r j then (mq_q m T C (mq_P D i (some j)) (mq_jn m T C D l r i s j).1, true) else mq_jn m T C D l r i s j).1
    split
    · exact mq_gi_q ih
    · exact ih
theorem mq_gi_row {m : Nat → Nat} {T C D : Nat → Nat → Int32} {n1 mo l r i : Nat} {s : MqG} (h : mq_gi s) : mq_gi (mq_row m T C D n1 mo l r i s) := by
  unfold mq_row
  split
  · exact mq_gi_q h
  · split
    · exact mq_gi_jn h n1
    · exact mq_gi_q (mq_gi_jn h n1)
theorem mq_gi_rows {m : Nat → Nat} {T C D : Nat → Nat → Int32} {n1 mo l r : Nat} : ∀ i, mq_gi (mq_rows m T C D n1 mo l r i) := by
  intro i
  induction i with
  | zero => exact ⟨Nat.zero_le 12, fun i j _ h => absurd h (Nat.not_lt_zero j)⟩
  | succ i ih => exact mq_gi_row ih
/-! tables -/
def mq_TX (n : Nat → Nat) (D : Nat → Nat → Int32) (ce rc : Nat → Int32) : Prop :=
  (∀ t, t < 2 → n t ≤ 16 ∧ rc t = nI (n t)) ∧ ∀ c, c < 6 → ∀ p, p < n (c / 3) → ce (16 * c + p) = D c p
def mq_TY (n : Nat → Nat) (D : Nat → Nat → Int32) (ce rc : Nat → Int32) : Prop :=
  (∀ t, t < 2 → n t ≤ 16 ∧ rc t = nI (n t)) ∧ ∀ c, c < 6 → ∀ p, p < n (c / 3) → ce (48 * (c / 3) + 3 * p + c % 3) = D c p
def mq_nS (n : Nat → Nat) (t k : Nat) : Nat → Nat := fun i => if i = t then k else n i
def mq_Din (n : Nat → Nat) (D : Nat → Nat → Int32) (t : Nat) (x y z : Int32) : Nat → Nat → Int32 := fun c p =>
  if c / 3 = t ∧ p = n t then (if c % 3 = 0 then x else if c % 3 = 1 then y else z) else D c p
def mq_Dse (D : Nat → Nat → Int32) (c0 p0 : Nat) (x : Int32) : Nat → Nat → Int32 := fun c p => if c = c0 ∧ p = p0 then x else D c p
def mq_Dre (D : Nat → Nat → Int32) (t p0 : Nat) : Nat → Nat → Int32 := fun c p => if c / 3 = t ∧ p0 ≤ p then D c (p + 1) else D c p
theorem mq_rc_in {n : Nat → Nat} {rc : Nat → Int32} {t k : Nat} (h : ∀ t, t < 2 → n t ≤ 16 ∧ rc t = nI (n t)) (hk : k ≤ 16) : ∀ i, i < 2 → mq_nS n t k i ≤ 16 ∧ upd rc t (nI k) i = nI (mq_nS n t k i) := by
  intro i hi
  unfold mq_nS upd
  by_cases e : i = t
  · rw [if_pos e, if_pos e]; exact ⟨hk, rfl⟩
  · rw [if_neg e, if_neg e]; exact h i hi
theorem mq_tx_in {n : Nat → Nat} {D : Nat → Nat → Int32} {ce rc : Nat → Int32} {t : Nat} {x y z : Int32} (h : mq_TX n D ce rc) (ht : t < 2) (hn : n t < 16) :
    mq_TX (mq_nS n t (n t + 1)) (mq_Din n D t x y z) (upd (upd (upd ce (3 * t * 16 + n t) x) ((3 * t + 1) * 16 + n t) y) ((3 * t + 2) * 16 + n t) z) (upd rc t (nI (n t + 1))) := by
  refine ⟨mq_rc_in h.1 (by omega), ?_⟩
  intro c hc p hp
  have h16 : ∀ t, t < 2 → n t ≤ 16 := fun t ht => (h.1 t ht).1
  have h2 := h.2 c hc p
  have h3 := h16 (c / 3) (by omega)
  unfold mq_nS at hp
  unfold mq_Din upd
  by_cases e : c / 3 = t
  · rw [if_pos e] at hp
    rw [e] at h2 h3
    by_cases e2 : p = n t
    · rw [if_pos (⟨e, e2⟩ : c / 3 = t ∧ p = n t)]
      by_cases e3 : c % 3 = 0
      · rw [if_neg (by omega), if_neg (by omega), if_pos (by omega), if_pos e3]
      · by_cases e4 : c % 3 = 1
        · rw [if_neg (by omega), if_pos (by omega), if_neg e3, if_pos e4]
        · rw [if_pos (by omega), if_neg e3, if_neg e4]
    · rw [if_neg (by omega), if_neg (by omega), if_neg (by omega), if_neg (fun q => e2 q.2)]
      exact h2 (by omega)
  · rw [if_neg e] at hp
    rw [if_neg (by omega), if_neg (by omega), if_neg (by omega), if_neg (fun q => e q.1)]
    exact h2 hp
theorem mq_ty_in {n : Nat → Nat} {D : Nat → Nat → Int32} {ce rc : Nat → Int32} {t : Nat} {x y z : Int32} (h : mq_TY n D ce rc) (ht : t < 2) (hn : n t < 16) :
    mq_TY (mq_nS n t (n t + 1)) (mq_Din n D t x y z) (upd (upd (upd ce (48 * t + 3 * n t) x) (48 * t + 3 * n t + 1) y) (48 * t + 3 * n t + 2) z) (upd rc t (nI (n t + 1))) := by
  refine ⟨mq_rc_in h.1 (by omega), ?_⟩
  intro c hc p hp
  have h16 : ∀ t, t < 2 → n t ≤ 16 := fun t ht => (h.1 t ht).1
  have h2 := h.2 c hc p
  have h3 := h16 (c / 3) (by omega)
  unfold mq_nS at hp
  unfold mq_Din upd
  by_cases e : c / 3 = t
  · rw [if_pos e] at hp
    rw [e] at h2 h3
    by_cases e2 : p = n t
    · rw [if_pos (⟨e, e2⟩ : c / 3 = t ∧ p = n t)]
      by_cases e3 : c % 3 = 0
      · rw [if_neg (by omega), if_neg (by omega), if_pos (by omega), if_pos e3]
      · by_cases e4 : c % 3 = 1
        · rw [if_neg (by omega), if_pos (by omega), if_neg e3, if_pos e4]
        · rw [if_pos (by omega), if_neg e3, if_neg e4]
    · rw [if_neg (by omega), if_neg (by omega), if_neg (by omega), if_neg (fun q => e2 q.2)]
      rw [e]
      exact h2 (by omega)
  · rw [if_neg e] at hp
    have h4 : p < 16 := by omega
    rw [if_neg (by omega), if_neg (by omega), if_neg (by omega), if_neg (fun q => e q.1)]
    exact h2 hp
theorem mq_tx_se {n : Nat → Nat} {D : Nat → Nat → Int32} {ce rc : Nat → Int32} {c0 p0 : Nat} {x : Int32} (h : mq_TX n D ce rc) (hc0 : c0 < 6) (hp0 : p0 < n (c0 / 3)) :
    mq_TX n (mq_Dse D c0 p0 x) (upd ce (c0 * 16 + p0) x) rc := by
  refine ⟨h.1, ?_⟩
  intro c hc p hp
  have h3 := (h.1 (c / 3) (by omega)).1
  have h4 := (h.1 (c0 / 3) (by omega)).1
  unfold mq_Dse upd
  by_cases e : c = c0 ∧ p = p0
  · rw [if_pos e, if_pos (by omega)]
  · rw [if_neg e, if_neg (by omega)]
    exact h.2 c hc p hp
theorem mq_ty_se {n : Nat → Nat} {D : Nat → Nat → Int32} {ce rc : Nat → Int32} {c0 p0 : Nat} {x : Int32} (h : mq_TY n D ce rc) (hc0 : c0 < 6) (hp0 : p0 < n (c0 / 3)) :
    mq_TY n (mq_Dse D c0 p0 x) (upd ce (48 * (c0 / 3) + 3 * p0 + c0 % 3) x) rc := by
  refine ⟨h.1, ?_⟩
  intro c hc p hp
  have h3 := (h.1 (c / 3) (by omega)).1
  have h4 := (h.1 (c0 / 3) (by omega)).1
  unfold mq_Dse upd
  by_cases e : c = c0 ∧ p = p0
  · rw [if_pos e, if_pos (by rw [e.1, e.2])]
  · rw [if_neg e, if_neg (by omega)]
    exact h.2 c hc p hp
/-! remove -/
def mq_xr (ce : Nat → Int32) (b lo hi : Nat) : Nat → Int32 := fun j => if b + lo ≤ j ∧ j < b + hi then ce (j + 1) else ce j
theorem mq_xr_0 (ce : Nat → Int32) (b lo : Nat) : mq_xr ce b lo lo = ce := by
  funext j
  exact if_neg (by omega)
theorem mq_xr_s {ce : Nat → Int32} {b lo t : Nat} (h : lo ≤ t) : upd (mq_xr ce b lo t) (b + t) (mq_xr ce b lo t (b + t + 1)) = mq_xr ce b lo (t + 1) := by
  funext j
  unfold mq_xr upd
  by_cases e : j = b + t
  · rw [if_pos e, if_neg (by omega), if_pos (by omega), e]
  · rw [if_neg e]
    try dsimp only
    by_cases e2 : b + lo ≤ j ∧ j < b + t
    · rw [if_pos e2, if_pos (by omega)]
    · rw [if_neg e2, if_neg (by omega)]
def mq_xo (ce : Nat → Int32) (f lo hi : Nat) : Nat → Nat → Int32
  | 0 => ce
  | k + 1 => mq_xr (mq_xo ce f lo hi k) ((f + k) * 16) lo hi
theorem mq_tx_re {n : Nat → Nat} {D : Nat → Nat → Int32} {ce rc : Nat → Int32} {t p0 : Nat} (h : mq_TX n D ce rc) (ht : t < 2) (hp0 : p0 < n t) :
    mq_TX (mq_nS n t (n t - 1)) (mq_Dre D t p0) (mq_xo ce (3 * t) p0 (n t - 1) 3) (upd rc t (nI (n t - 1))) := by
  have h16 := (h.1 t ht).1
  refine ⟨mq_rc_in h.1 (by omega), ?_⟩
  intro c hc p hp
  have h3 := (h.1 (c / 3) (by omega)).1
  unfold mq_nS at hp
  show mq_xr (mq_xr (mq_xr ce ((3 * t + 0) * 16) p0 (n t - 1)) ((3 * t + 1) * 16) p0 (n t - 1)) ((3 * t + 2) * 16) p0 (n t - 1) (16 * c + p) = mq_Dre D t p0 c p
  unfold mq_Dre
  by_cases e : c / 3 = t
  · rw [if_pos e] at hp
    have h2 := h.2 c hc (p + 1)
    have h2' := h.2 c hc p
    rw [e] at h2 h2' h3
    by_cases e2 : p0 ≤ p
    · rw [if_pos ⟨e, e2⟩]
      rw [← h2 (by omega)]
      by_cases e3 : c % 3 = 0
      · unfold mq_xr
        rw [if_neg (by omega), if_neg (by omega), if_pos (by omega)]
        exact congrArg ce (by omega)
      · by_cases e4 : c % 3 = 1
        · unfold mq_xr
          rw [if_neg (by omega), if_pos (by omega), if_neg (by omega)]
          exact congrArg ce (by omega)
        · unfold mq_xr
          rw [if_pos (by omega), if_neg (by omega), if_neg (by omega)]
          exact congrArg ce (by omega)
    · rw [if_neg (fun q => e2 q.2)]
      unfold mq_xr
      rw [if_neg (by omega), if_neg (by omega), if_neg (by omega)]
      exact h2' (by omega)
  · rw [if_neg e] at hp
    rw [if_neg (fun q => e q.1)]
    unfold mq_xr
    rw [if_neg (by omega), if_neg (by omega), if_neg (by omega)]
    exact h.2 c hc p hp
def mq_yr (ce : Nat → Int32) (lo t : Nat) : Nat → Int32 := fun j => if lo ≤ j ∧ j < t then ce (j + 3) else ce j
theorem mq_yr_0 (ce : Nat → Int32) (lo : Nat) : mq_yr ce lo lo = ce := by
  funext j
  exact if_neg (by omega)
theorem mq_yr_s {ce : Nat → Int32} {lo t : Nat} (h : lo ≤ t) : upd (mq_yr ce lo t) t (mq_yr ce lo t (t + 3)) = mq_yr ce lo (t + 1) := by
  funext j
  unfold mq_yr upd
  by_cases e : j = t
  · rw [if_pos e, if_neg (by omega), if_pos (by omega), e]
  · rw [if_neg e]
    try dsimp only
    by_cases e2 : lo ≤ j ∧ j < t
    · rw [if_pos e2, if_pos (by omega)]
    · rw [if_neg e2, if_neg (by omega)]
theorem mq_ty_re {n : Nat → Nat} {D : Nat → Nat → Int32} {ce rc : Nat → Int32} {t p0 : Nat} (h : mq_TY n D ce rc) (ht : t < 2) (hp0 : p0 < n t) :
    mq_TY (mq_nS n t (n t - 1)) (mq_Dre D t p0) (mq_yr ce (48 * t + 3 * p0) (48 * t + 3 * (n t - 1))) (upd rc t (nI (n t - 1))) := by
  have h16 := (h.1 t ht).1
  refine ⟨mq_rc_in h.1 (by omega), ?_⟩
  intro c hc p hp
  have h3 := (h.1 (c / 3) (by omega)).1
  unfold mq_nS at hp
  unfold mq_Dre mq_yr
  by_cases e : c / 3 = t
  · rw [if_pos e] at hp
    have h2 := h.2 c hc (p + 1)
    have h2' := h.2 c hc p
    rw [e] at h2 h2' h3
    by_cases e2 : p0 ≤ p
    · rw [if_pos (by omega), if_pos ⟨e, e2⟩, ← h2 (by omega)]
      exact congrArg ce (by omega)
    · rw [if_neg (by omega), if_neg (fun q => e2 q.2), ← h2' (by omega)]
      exact congrArg ce (by omega)
  · rw [if_neg e] at hp
    rw [if_neg (by omega), if_neg (fun q => e q.1)]
    exact h.2 c hc p hp
/-! expressions: the same on both sides -/
def mq_EX (m : Nat → Nat) (T C : Nat → Nat → Int32) (tk co ln : Nat → Int32) : Prop :=
  (∀ e, e < 4 → m e ≤ 20 ∧ ln e = nI (m e)) ∧ ∀ e, e < 4 → ∀ i, i < m e → tk (20 * e + i) = T e i ∧ co (20 * e + i) = C e i
def mq_EI (m : Nat → Nat) (T : Nat → Nat → Int32) : Prop :=
  (∀ e, e < 4 → ∀ i, i < m e → T e i ∈ mq_tk) ∧ mq_WK (T 0) (m 0) true ∧ mq_WK (T 1) (m 1) false ∧ mq_WK (T 2) (m 2) false
def mq_fS {α : Type} (T : Nat → Nat → α) (e i : Nat) (x : α) : Nat → Nat → α := fun e' i' => if e' = e ∧ i' = i then x else T e' i'
def mq_fE {α : Type} (T : Nat → α) (e : Nat) (x : α) : Nat → α := fun e' => if e' = e then x else T e'
theorem mq_ex_ln {m : Nat → Nat} {T C : Nat → Nat → Int32} {tk co ln : Nat → Int32} {e k : Nat} (h : mq_EX m T C tk co ln) (hk : k ≤ m e) (he : e < 4) : mq_EX (mq_nS m e k) T C tk co (upd ln e (nI k)) := by
  have h20 := (h.1 e he).1
  refine ⟨fun i hi => ?_, fun i hi j hj => ?_⟩
  · unfold mq_nS upd
    by_cases e1 : i = e
    · rw [if_pos e1, if_pos e1]; exact ⟨by omega, rfl⟩
    · rw [if_neg e1, if_neg e1]; exact h.1 i hi
  · unfold mq_nS at hj
    by_cases e1 : i = e
    · rw [if_pos e1] at hj
      subst e1
      exact h.2 i hi j (by omega)
    · rw [if_neg e1] at hj
      exact h.2 i hi j hj
theorem mq_ex_ad {m : Nat → Nat} {T C : Nat → Nat → Int32} {tk co ln : Nat → Int32} {x y : Int32} (h : mq_EX m T C tk co ln) (hm : m 3 < 20) :
    mq_EX (mq_nS m 3 (m 3 + 1)) (mq_fS T 3 (m 3) x) (mq_fS C 3 (m 3) y) (upd tk (60 + m 3) x) (upd co (60 + m 3) y) (upd ln 3 (nI (m 3 + 1))) := by
  refine ⟨fun i hi => ?_, fun i hi j hj => ?_⟩
  · unfold mq_nS upd
    by_cases e1 : i = 3
    · rw [if_pos e1, if_pos e1]; exact ⟨by omega, rfl⟩
    · rw [if_neg e1, if_neg e1]; exact h.1 i hi
  · have h20 := (h.1 i hi).1
    have h2 := h.2 i hi j
    unfold mq_nS at hj
    unfold mq_fS upd
    by_cases e1 : i = 3
    · rw [if_pos e1] at hj
      subst e1
      by_cases e2 : j = m 3
      · rw [if_pos (by omega), if_pos ⟨rfl, e2⟩, if_pos (by omega), if_pos ⟨rfl, e2⟩]
        exact ⟨rfl, rfl⟩
      · rw [if_neg (by omega), if_neg (fun q => e2 q.2), if_neg (by omega), if_neg (fun q => e2 q.2)]
        exact h2 (by omega)
    · rw [if_neg e1] at hj
      rw [if_neg (by omega), if_neg (fun q => e1 q.1), if_neg (by omega), if_neg (fun q => e1 q.1)]
      exact h2 hj
theorem mq_ei_ad {m : Nat → Nat} {T : Nat → Nat → Int32} {x : Int32} (h : mq_EI m T) (hx : x ∈ mq_tk) : mq_EI (mq_nS m 3 (m 3 + 1)) (mq_fS T 3 (m 3) x) := by
  have ht : ∀ e, e < 3 → mq_fS T 3 (m 3) x e = T e := by
    intro e he
    funext i
    exact if_neg (fun q => by omega)
  refine ⟨fun e he i hi => ?_, ?_, ?_, ?_⟩
  · unfold mq_nS at hi
    unfold mq_fS
    by_cases e1 : e = 3
    · rw [if_pos e1] at hi
      by_cases e2 : i = m 3
      · rw [if_pos ⟨e1, e2⟩]; exact hx
      · rw [if_neg (fun q => e2 q.2)]
        subst e1
        exact h.1 3 he i (by omega)
    · rw [if_neg e1] at hi
      rw [if_neg (fun q => e1 q.1)]
      exact h.1 e he i hi
  · rw [ht 0 (by omega)]; exact h.2.1
  · rw [ht 1 (by omega)]; exact h.2.2.1
  · rw [ht 2 (by omega)]; exact h.2.2.2
theorem mq_ei_0 {m : Nat → Nat} {T : Nat → Nat → Int32} (h : mq_EI m T) : mq_EI (mq_nS m 3 0) T := by
  refine ⟨fun e he i hi => ?_, h.2.1, h.2.2.1, h.2.2.2⟩
  unfold mq_nS at hi
  by_cases e1 : e = 3
  · rw [if_pos e1] at hi; omega
  · rw [if_neg e1] at hi; exact h.1 e he i hi
theorem mq_ei_us {m : Nat → Nat} {T : Nat → Nat → Int32} {w : Nat} (h : mq_EI m T) (hw : w < 3) (hk : mq_WK (T 3) (m 3) (decide (w = 0))) : mq_EI (mq_nS (mq_nS m w (m 3)) 3 0) (mq_fE T w (T 3)) := by
  have hm : ∀ e, e < 3 → mq_nS (mq_nS m w (m 3)) 3 0 e = if e = w then m 3 else m e := by
    intro e he
    exact if_neg (by omega)
  refine ⟨fun e he i hi => ?_, ?_, ?_, ?_⟩
  · by_cases e1 : e = 3
    · subst e1
      exact absurd hi (Nat.not_lt_zero i)
    · rw [hm e (by omega)] at hi
      unfold mq_fE
      by_cases e2 : e = w
      · rw [if_pos e2] at hi
        rw [if_pos e2]
        exact h.1 3 (by omega) i hi
      · rw [if_neg e2] at hi
        rw [if_neg e2]
        exact h.1 e he i hi
  · rw [hm 0 (by omega)]
    unfold mq_fE
    by_cases e2 : 0 = w
    · rw [if_pos e2, if_pos e2]; subst e2; exact hk
    · rw [if_neg e2, if_neg e2]; exact h.2.1
  · rw [hm 1 (by omega)]
    unfold mq_fE
    by_cases e2 : 1 = w
    · rw [if_pos e2, if_pos e2]; subst e2; exact hk
    · rw [if_neg e2, if_neg e2]; exact h.2.2.1
  · rw [hm 2 (by omega)]
    unfold mq_fE
    by_cases e2 : 2 = w
    · rw [if_pos e2, if_pos e2]; subst e2; exact hk
    · rw [if_neg e2, if_neg e2]; exact h.2.2.2
end MQR
end
section
section MQG
/-! groups as the two sides hold them -/
def mq_kn : Option Int64 → Int64
  | none => 1
  | some _ => 0
def mq_kv : Option Int64 → Int64
  | none => 0
  | some x => x
def mq_kb : Option Int64 → Int32
  | none => 1
  | some _ => 0
def mq_bi (b : Bool) : Int32 := if b = true then 1 else 0
def mq_FX (s : MqG) (fa : Nat → Int64) : Prop := ∀ i, i < s.1 → fa (7 * i) = mq_kn (s.2.1 i) ∧ fa (7 * i + 1) = mq_kv (s.2.1 i) ∧ (s.2.2.2.1 = false → ∀ j, j < 5 → fa (7 * i + 2 + j) = s.2.2.1 i j)
def mq_FY (s : MqG) (gn : Nat → Int32) (gk gs : Nat → Int64) : Prop := ∀ i, i < s.1 → gn i = mq_kb (s.2.1 i) ∧ gk i = mq_kv (s.2.1 i) ∧ (s.2.2.2.1 = false → ∀ j, j < 5 → gs (5 * i + j) = s.2.2.1 i j)
theorem mq_add_c {x : Option Int64} {f f' : Nat → Int64} (h : ∀ k, k < 5 → f k = f' k) : ∀ j, j < 5 → mq_add x f j = mq_add x f' j := by
  intro j hj
  cases x with
  | none =>
    show (if j = 0 then f 0 + 1 else f j) = (if j = 0 then f' 0 + 1 else f' j)
    rw [h 0 (by omega), h j hj]
  | some x =>
    show (if j = 0 then f 0 + 1 else if j = 1 then f 1 + 1 else if j = 2 then f 2 + x else if j = 3 then (if f 1 = 0 ∨ x < f 3 then x else f 3) else if j = 4 then (if f 1 = 0 ∨ f 4 < x then x else f 4) else f j)
      = (if j = 0 then f' 0 + 1 else if j = 1 then f' 1 + 1 else if j = 2 then f' 2 + x else if j = 3 then (if f' 1 = 0 ∨ x < f' 3 then x else f' 3) else if j = 4 then (if f' 1 = 0 ∨ f' 4 < x then x else f' 4) else f' j)
    rw [h 0 (by omega), h 1 (by omega), h 2 (by omega), h 3 (by omega), h 4 (by omega), h j hj]
theorem mq_fx_up {s : MqG} {fa fa' : Nat → Int64} {p : Nat} {x : Option Int64} {c : Int32} (h : mq_FX s fa) (ho : ∀ j, (j < 7 * p + 2 ∨ 7 * p + 7 ≤ j) → fa' j = fa j)
    (hv : ∀ j, j < 5 → fa' (7 * p + 2 + j) = mq_add x (fun k => fa (7 * p + 2 + k)) j) :
    mq_FX (s.1, s.2.1, (if s.2.2.2.1 = true then s.2.2.1 else mq_upS p x s.2.2.1), s.2.2.2.1, c) fa' := by
  obtain ⟨n, K, S, b, c'⟩ := s
  intro i hi
  have h1 := h i hi
  dsimp only at h1 ⊢
  refine ⟨by rw [ho _ (by omega)]; exact h1.1, by rw [ho _ (by omega)]; exact h1.2.1, ?_⟩
  intro hb j hj
  have h2 := h1.2.2 hb
  rw [hb, if_neg (by decide)]
  unfold mq_upS
  by_cases e : i = p
  · rw [if_pos e]
    subst e
    rw [hv j hj]
    exact mq_add_c h2 j hj
  · rw [if_neg e, ho _ (by omega)]
    exact h2 j hj
theorem mq_fy_up {s : MqG} {gn : Nat → Int32} {gk gs gs' : Nat → Int64} {p : Nat} {x : Option Int64} {c : Int32} (h : mq_FY s gn gk gs) (hb : s.2.2.2.1 = false) (ho : ∀ j, (j < 5 * p ∨ 5 * p + 5 ≤ j) → gs' j = gs j)
    (hv : ∀ j, j < 5 → gs' (5 * p + j) = mq_add x (fun k => gs (5 * p + k)) j) :
    mq_FY (s.1, s.2.1, (if s.2.2.2.1 = true then s.2.2.1 else mq_upS p x s.2.2.1), s.2.2.2.1, c) gn gk gs' := by
  obtain ⟨n, K, S, b, c'⟩ := s
  intro i hi
  have h1 := h i hi
  dsimp only at h1 hb ⊢
  refine ⟨h1.1, h1.2.1, ?_⟩
  intro _ j hj
  have h2 := h1.2.2 hb
  rw [hb, if_neg (by decide)]
  unfold mq_upS
  by_cases e : i = p
  · rw [if_pos e]
    subst e
    rw [hv j hj]
    exact mq_add_c h2 j hj
  · rw [if_neg e, ho _ (by omega)]
    exact h2 j hj
/-! X: a group opened -/
def mq_xs (fa : Nat → Int64) (f hi : Nat) : Nat → Int64 := fun j => if f + 7 ≤ j ∧ j < hi + 7 then fa (j - 7) else fa j
theorem mq_xs_0 (fa : Nat → Int64) (hi : Nat) : mq_xs fa hi hi = fa := by
  funext j
  exact if_neg (by omega)
theorem mq_xs_s {fa : Nat → Int64} {f hi : Nat} (h : f < hi) : vp_updL (mq_xs fa (f + 1) hi) (f + 7) (mq_xs fa (f + 1) hi f) = mq_xs fa f hi := by
  funext j
  unfold mq_xs vp_updL
  by_cases e : j = f + 7
  · rw [if_pos e, if_neg (by omega), if_pos (by omega), e]
    exact congrArg fa (by omega)
  · rw [if_neg e]
    try dsimp only
    by_cases e2 : f + 1 + 7 ≤ j ∧ j < hi + 7
    · rw [if_pos e2, if_pos (by omega)]
    · rw [if_neg e2, if_neg (by omega)]
def mq_xz (fa : Nat → Int64) (st k : Nat) : Nat → Int64 := fun j => if st ≤ j ∧ j < st + k then 0 else fa j
theorem mq_xz_0 (fa : Nat → Int64) (st : Nat) : mq_xz fa st 0 = fa := by
  funext j
  exact if_neg (by omega)
theorem mq_xz_s {fa : Nat → Int64} {st k : Nat} : vp_updL (mq_xz fa st k) (st + k) 0 = mq_xz fa st (k + 1) := by
  funext j
  unfold mq_xz vp_updL
  by_cases e : j = st + k
  · rw [if_pos e, if_pos (by omega)]
  · rw [if_neg e]
    try dsimp only
    by_cases e2 : st ≤ j ∧ j < st + k
    · rw [if_pos e2, if_pos (by omega)]
    · rw [if_neg e2, if_neg (by omega)]
theorem mq_fx_in {n : Nat} {K : Nat → Option Int64} {S : Nat → Nat → Int64} {b : Bool} {c c' : Int32} {fa : Nat → Int64} {p : Nat} {q : Option Int64} (h : mq_FX (n, K, S, b, c) fa) (hp : p ≤ n) :
    mq_FX (n + 1, mq_ins K p q, mq_ins S p (fun _ => 0), b, c') (vp_updL (vp_updL (mq_xz (mq_xs fa (p * 7) (n * 7)) (p * 7) 7) (p * 7) (mq_kn q)) (p * 7 + 1) (mq_kv q)) := by
  intro i hi
  have hi : i < n + 1 := hi
  dsimp only
  by_cases h1 : i < p
  · have h2 := h i (by show i < n; omega)
    dsimp only at h2
    have hf : ∀ j, j < 7 → vp_updL (vp_updL (mq_xz (mq_xs fa (p * 7) (n * 7)) (p * 7) 7) (p * 7) (mq_kn q)) (p * 7 + 1) (mq_kv q) (7 * i + j) = fa (7 * i + j) := by
      intro j hj
      rw [pk_uLn (by omega), pk_uLn (by omega)]
      unfold mq_xz mq_xs
      rw [if_neg (by omega), if_neg (by omega)]
    rw [mq_ins_lo h1, mq_ins_lo h1]
    refine ⟨(hf 0 (by omega)).trans h2.1, (hf 1 (by omega)).trans h2.2.1, fun hb j hj => ?_⟩
    rw [Nat.add_assoc, hf (2 + j) (by omega), ← Nat.add_assoc]
    exact h2.2.2 hb j hj
  · by_cases h3 : i = p
    · subst h3
      rw [mq_ins_eq, mq_ins_eq]
      refine ⟨?_, ?_, fun hb j hj => ?_⟩
      · rw [pk_uLn (by omega), Nat.mul_comm 7 i, pk_uLs]
      · rw [Nat.mul_comm 7 i, pk_uLs]
      · rw [pk_uLn (by omega), pk_uLn (by omega)]
        unfold mq_xz
        rw [if_pos (by omega)]
    · have h2 := h (i - 1) (by show i - 1 < n; omega)
      dsimp only at h2
      have hf : ∀ j, j < 7 → vp_updL (vp_updL (mq_xz (mq_xs fa (p * 7) (n * 7)) (p * 7) 7) (p * 7) (mq_kn q)) (p * 7 + 1) (mq_kv q) (7 * i + j) = fa (7 * (i - 1) + j) := by
        intro j hj
        rw [pk_uLn (by omega), pk_uLn (by omega)]
        unfold mq_xz mq_xs
        rw [if_neg (by omega), if_pos (by omega)]
        exact congrArg fa (by omega)
      rw [mq_ins_hi (by omega), mq_ins_hi (by omega)]
      refine ⟨(hf 0 (by omega)).trans h2.1, (hf 1 (by omega)).trans h2.2.1, fun hb j hj => ?_⟩
      rw [Nat.add_assoc, hf (2 + j) (by omega), ← Nat.add_assoc]
      exact h2.2.2 hb j hj
/-! Y: groups moved up -/
def mq_sh {α : Type} (f : Nat → α) (p g : Nat) : Nat → α := fun j => if p < j ∧ j ≤ g then f (j - 1) else f j
theorem mq_sh_0 {α : Type} (f : Nat → α) (g : Nat) : mq_sh f g g = f := by
  funext j
  exact if_neg (by omega)
theorem mq_sh_s {f : Nat → Int32} {p g : Nat} (h : p < g) : upd (mq_sh f (p + 1) g) (p + 1) (mq_sh f (p + 1) g p) = mq_sh f p g := by
  funext j
  unfold mq_sh upd
  by_cases e : j = p + 1
  · rw [if_pos e, if_neg (by omega), if_pos (by omega), e]
    exact congrArg f (by omega)
  · rw [if_neg e]
    try dsimp only
    by_cases e2 : p + 1 < j ∧ j ≤ g
    · rw [if_pos e2, if_pos (by omega)]
    · rw [if_neg e2, if_neg (by omega)]
theorem mq_sh_sL {f : Nat → Int64} {p g : Nat} (h : p < g) : vp_updL (mq_sh f (p + 1) g) (p + 1) (mq_sh f (p + 1) g p) = mq_sh f p g := by
  funext j
  unfold mq_sh vp_updL
  by_cases e : j = p + 1
  · rw [if_pos e, if_neg (by omega), if_pos (by omega), e]
    exact congrArg f (by omega)
  · rw [if_neg e]
    try dsimp only
    by_cases e2 : p + 1 < j ∧ j ≤ g
    · rw [if_pos e2, if_pos (by omega)]
    · rw [if_neg e2, if_neg (by omega)]
theorem mq_sh_lo {α : Type} {f : Nat → α} {p g j : Nat} (h : j ≤ p) : mq_sh f p g j = f j := if_neg (by omega)
def mq_s5 (f : Nat → Int64) (p g : Nat) : Nat → Int64 := fun j => if 5 * p + 5 ≤ j ∧ j < 5 * g + 5 then f (j - 5) else f j
theorem mq_s5_0 (f : Nat → Int64) (g : Nat) : mq_s5 f g g = f := by
  funext j
  exact if_neg (by omega)
def mq_m5 (f : Nat → Int64) (t k : Nat) : Nat → Int64 := fun j => if 5 * t ≤ j ∧ j < 5 * t + k then f (j - 5) else f j
theorem mq_m5_0 (f : Nat → Int64) (t : Nat) : mq_m5 f t 0 = f := by
  funext j
  exact if_neg (by omega)
theorem mq_m5_s {f : Nat → Int64} {t k : Nat} (hk : k < 5) : vp_updL (mq_m5 f (t + 1) k) (5 * (t + 1) + k) (mq_m5 f (t + 1) k (5 * t + k)) = mq_m5 f (t + 1) (k + 1) := by
  funext j
  unfold mq_m5 vp_updL
  by_cases e : j = 5 * (t + 1) + k
  · rw [if_pos e, if_neg (by omega), if_pos (by omega), e]
    exact congrArg f (by omega)
  · rw [if_neg e]
    try dsimp only
    by_cases e2 : 5 * (t + 1) ≤ j ∧ j < 5 * (t + 1) + k
    · rw [if_pos e2, if_pos (by omega)]
    · rw [if_neg e2, if_neg (by omega)]
theorem mq_m5_5 {f : Nat → Int64} {p g : Nat} (h : p < g) : mq_m5 (mq_s5 f (p + 1) g) (p + 1) 5 = mq_s5 f p g := by
  funext j
  unfold mq_m5 mq_s5
  by_cases e : 5 * (p + 1) ≤ j ∧ j < 5 * (p + 1) + 5
  · rw [if_pos e, if_neg (by omega), if_pos (by omega)]
  · rw [if_neg e]
    try dsimp only
    by_cases e2 : 5 * (p + 1) + 5 ≤ j ∧ j < 5 * g + 5
    · rw [if_pos e2, if_pos (by omega)]
    · rw [if_neg e2, if_neg (by omega)]
theorem mq_fy_in {n : Nat} {K : Nat → Option Int64} {S : Nat → Nat → Int64} {b : Bool} {c c' : Int32} {gn : Nat → Int32} {gk gs : Nat → Int64} {p : Nat} {q : Option Int64} (h : mq_FY (n, K, S, b, c) gn gk gs) (hp : p ≤ n) :
    mq_FY (n + 1, mq_ins K p q, mq_ins S p (fun _ => 0), b, c') (upd (mq_sh gn p n) p (mq_kb q)) (vp_updL (mq_sh gk p n) p (mq_kv q)) (mq_xz (mq_s5 gs p n) (5 * p) 5) := by
  intro i hi
  have hi : i < n + 1 := hi
  dsimp only
  by_cases h1 : i < p
  · have h2 := h i (by show i < n; omega)
    dsimp only at h2
    rw [mq_ins_lo h1, mq_ins_lo h1, pk_un (by omega), pk_uLn (by omega), mq_sh_lo (by omega), mq_sh_lo (by omega)]
    refine ⟨h2.1, h2.2.1, fun hb j hj => ?_⟩
    rw [← h2.2.2 hb j hj]
    unfold mq_xz mq_s5
    rw [if_neg (by omega), if_neg (by omega)]
  · by_cases h3 : i = p
    · subst h3
      rw [mq_ins_eq, mq_ins_eq, pk_us, pk_uLs]
      refine ⟨rfl, rfl, fun hb j hj => ?_⟩
      unfold mq_xz
      rw [if_pos (by omega)]
    · have h2 := h (i - 1) (by show i - 1 < n; omega)
      dsimp only at h2
      have e1 : mq_sh gn p n i = gn (i - 1) := if_pos (by omega)
      have e2 : mq_sh gk p n i = gk (i - 1) := if_pos (by omega)
      rw [mq_ins_hi (by omega), mq_ins_hi (by omega), pk_un (by omega), pk_uLn (by omega), e1, e2]
      refine ⟨h2.1, h2.2.1, fun hb j hj => ?_⟩
      rw [← h2.2.2 hb j hj]
      unfold mq_xz mq_s5
      rw [if_neg (by omega), if_pos (by omega)]
      exact congrArg gs (by omega)
end MQG
end
section
section MQS
/-! the two stacks -/
def mq_rx (nu : Int32) (x : Int64) (v : Option Int64) : Prop := match v with
  | none => nu = 1
  | some y => nu = 0 ∧ x = y
def mq_ry (k : Bool) (nu : Int32) (x : Int64) (v : Option Int64) : Prop := match v with
  | none => if k = true then nu = 0 ∧ x = 2 else nu = 1 ∧ x = 0
  | some y => nu = 0 ∧ x = y
def mq_SX (nu : Nat → Int32) (nm : Nat → Int64) (h : Nat) (v : Nat → Option Int64) : Prop := ∀ j, j < h → mq_rx (nu (19 - j)) (nm (19 - j)) (v j)
def mq_SY (nu : Nat → Int32) (nm : Nat → Int64) (h : Nat) (k : Nat → Bool) (v : Nat → Option Int64) : Prop := ∀ j, j < h → mq_ry (k j) (nu j) (nm j) (v j)
def mq_k2 : Bool → Int32
  | true => 2
  | false => 1
def mq_k1 : Bool → Int64
  | true => 1
  | false => 0
def mq_KX (ki : Nat → Int32) (h : Nat) (k : Nat → Bool) : Prop := ∀ j, j < h → ki (19 - j) = mq_k2 (k j)
def mq_KY (nm : Nat → Int64) (h : Nat) (k : Nat → Bool) : Prop := ∀ j, j < h → nm j = mq_k1 (k j)
theorem mq_sx_p {nu : Nat → Int32} {nm : Nat → Int64} {h i : Nat} {v : Nat → Option Int64} {a : Int32} {b : Int64} {w : Option Int64} (H : mq_SX nu nm h v) (hi : i ≤ h) (h2 : i < 20) (hw : mq_rx a b w) :
    mq_SX (upd nu (19 - i) a) (vp_updL nm (19 - i) b) (i + 1) (fun j => if j = i then w else v j) := by
  intro j hj
  dsimp only
  by_cases e : j = i
  · subst e
    rw [if_pos rfl, pk_us, pk_uLs]
    exact hw
  · rw [if_neg e, pk_un (by omega), pk_uLn (by omega)]
    exact H j (by omega)
theorem mq_sy_p {nu : Nat → Int32} {nm : Nat → Int64} {h i : Nat} {k : Nat → Bool} {v : Nat → Option Int64} {a : Int32} {b : Int64} {kk : Bool} {w : Option Int64} (H : mq_SY nu nm h k v) (hi : i ≤ h) (hw : mq_ry kk a b w) :
    mq_SY (upd nu i a) (vp_updL nm i b) (i + 1) (fun j => if j = i then kk else k j) (fun j => if j = i then w else v j) := by
  intro j hj
  dsimp only
  by_cases e : j = i
  · subst e
    rw [if_pos rfl, if_pos rfl, pk_us, pk_uLs]
    exact hw
  · rw [if_neg e, if_neg e, pk_un e, pk_uLn e]
    exact H j (by omega)
theorem mq_kx_p {ki : Nat → Int32} {h i : Nat} {k : Nat → Bool} {kk : Bool} {a : Int32} (H : mq_KX ki h k) (hi : i ≤ h) (h2 : i < 20) (ha : a = mq_k2 kk) :
    mq_KX (upd ki (19 - i) a) (i + 1) (fun j => if j = i then kk else k j) := by
  intro j hj
  dsimp only
  by_cases e : j = i
  · subst e
    rw [if_pos rfl, pk_us]
    exact ha
  · rw [if_neg e, pk_un (by omega)]
    exact H j (by omega)
theorem mq_ky_p {nm : Nat → Int64} {h i : Nat} {k : Nat → Bool} {kk : Bool} {a : Int64} (H : mq_KY nm h k) (hi : i ≤ h) (ha : a = mq_k1 kk) :
    mq_KY (vp_updL nm i a) (i + 1) (fun j => if j = i then kk else k j) := by
  intro j hj
  dsimp only
  by_cases e : j = i
  · subst e
    rw [if_pos rfl, pk_uLs]
    exact ha
  · rw [if_neg e, pk_uLn e]
    exact H j (by omega)
end MQS
end
section
section MQ6
/-! the relation -/
def mq_XR (n : Nat → Nat) (D : Nat → Nat → Int32) (m : Nat → Nat) (T C : Nat → Nat → Int32) (s : MqG) (u : SX) : Prop := match u with
  | (gc, pc, tm, ce, rc, tk, co, ln, ki, nm, nu, pr, fa) => mq_TX n D ce rc ∧ mq_EX m T C tk co ln ∧ mq_FX s fa ∧ gc = nI s.1 ∧ pc = s.2.2.2.2 ∧ tm = mq_bi s.2.2.2.1
def mq_YR (n : Nat → Nat) (D : Nat → Nat → Int32) (m : Nat → Nat) (T C : Nat → Nat → Int32) (s : MqG) (v : SY) : Prop := match v with
  | (tp, gr, fu, pp, ce, rc, tk, co, ln, nm, nu, gn, gk, gs) => mq_TY n D ce rc ∧ mq_EX m T C tk co ln ∧ mq_FY s gn gk gs ∧ gr = nI s.1 ∧ pp = s.2.2.2.2 ∧ fu = mq_bi s.2.2.2.1
def mq_In (m : Nat → Nat) (T : Nat → Nat → Int32) (s : MqG) : Prop := mq_EI m T ∧ mq_gi s ∧ (s.2.2.2.1 = true → s.1 = 0)
def i_Rel (k : Nat) (u : SX) (v : SY) : Prop := ∃ (n : Nat → Nat) (D : Nat → Nat → Int32) (m : Nat → Nat) (T C : Nat → Nat → Int32) (s : MqG), mq_In m T s ∧ mq_XR n D m T C s u ∧ mq_YR n D m T C s v
theorem i_up {k : Nat} {u : SX} {v : SY} (h : i_Rel k u v) : i_Rel (k + 5) u v := h
/-! index arithmetic -/
theorem mi_16 (a b : Nat) : nI a * 16 + nI b = nI (a * 16 + b) := by rw [show (16 : Int32) = nI 16 from rfl, pk_mul, nI_add]
theorem mi_60 (b : Nat) : 60 + nI b = nI (60 + b) := by rw [show (60 : Int32) = nI 60 from rfl, nI_add]
theorem mi_20 (a b : Nat) : nI a * 20 + nI b = nI (a * 20 + b) := by rw [show (20 : Int32) = nI 20 from rfl, pk_mul, nI_add]
theorem mi_20' (a : Nat) : 20 * nI a = nI (20 * a) := by rw [show (20 : Int32) = nI 20 from rfl, pk_mul]
theorem mi_3' (a : Nat) : 3 * nI a = nI (3 * a) := by rw [show (3 : Int32) = nI 3 from rfl, pk_mul]
theorem mi_48 (a b : Nat) : 48 * nI a + 3 * nI b = nI (48 * a + 3 * b) := by rw [show (48 : Int32) = nI 48 from rfl, pk_mul, mi_3', nI_add]
theorem mi_5 (a b : Nat) : 5 * nI a + nI b = nI (5 * a + b) := by rw [show (5 : Int32) = nI 5 from rfl, pk_mul, nI_add]
theorem mi_5' (a : Nat) : 5 * nI a = nI (5 * a) := by rw [show (5 : Int32) = nI 5 from rfl, pk_mul]
theorem mi_7 (a : Nat) : nI a * 7 = nI (a * 7) := by rw [show (7 : Int32) = nI 7 from rfl, pk_mul]
theorem mi_a (a b : Nat) {x : Int32} (hx : x = nI b := by rfl) : nI a + x = nI (a + b) := by rw [hx, nI_add]
theorem mi_d3 {c : Nat} (h : c < 6) : nI c / 3 = nI (c / 3) := pk_div (by omega) (by decide) (by decide)
theorem mi_r3 {c : Nat} (h : c < 6) : nI c - nI c / 3 * 3 = nI (c % 3) := pk_rem (by omega) (by decide) (by decide)
theorem mi_ge {x : Int32} (k : Nat) {y : Int32} (hy : y = nI k := by rfl) (h : ¬ x < 0) (h2 : ¬ x < y) (hk : k < 2 ^ 31 := by decide) : y ≤ x := by
  subst hy
  obtain ⟨j, hj, rfl⟩ := nI_of h
  rw [nI_ltI hj hk] at h2
  exact nI_le (by omega) hj
/-! tables: the small tests -/
theorem mx_ht {post : Int32 → Prop} {t : Nat} (ht : t < 2) (h : post 1) : wpX_hasTable post (nI t) :=
  br_f (nI_pos (by omega)) (br_f (nI_ge (b := 2) ht (by decide)) h)
theorem mx_htn {post : Int32 → Prop} {x : Int32} (hx : x < 0 ∨ nI 2 ≤ x) (h : post 0) : wpX_hasTable post x := by
  by_cases h0 : x < 0
  · exact br_t h0 h
  · exact br_f h0 (br_t (hx.resolve_left h0) h)
theorem mx_hr {post : Int32 → Prop} {gc pc tm : Int32} {ce rc tk co ln ki : Nat → Int32} {nm : Nat → Int64} {nu pr : Nat → Int32} {fa : Nat → Int64} {n : Nat → Nat} {D : Nat → Nat → Int32} (H : mq_TX n D ce rc) {t p : Nat} (ht : t < 2) (hp : p < n t) (h : post 1) : wpX_hasRow post (gc, pc, tm, ce, rc, tk, co, ln, ki, nm, nu, pr, fa) (nI t) (nI p) := by
  have h1 := H.1 t ht
  refine br_f (nI_pos (by omega)) ⟨vp_in_nI ht (by decide), ?_⟩
  rw [nI_clamp (by omega), h1.2]
  exact br_f (nI_ge hp (by omega)) h
theorem mx_hrn {post : Int32 → Prop} {gc pc tm : Int32} {ce rc tk co ln ki : Nat → Int32} {nm : Nat → Int64} {nu pr : Nat → Int32} {fa : Nat → Int64} {n : Nat → Nat} {D : Nat → Nat → Int32} (H : mq_TX n D ce rc) {t : Nat} {x : Int32} (ht : t < 2) (hp : x < 0 ∨ nI (n t) ≤ x) (h : post 0) : wpX_hasRow post (gc, pc, tm, ce, rc, tk, co, ln, ki, nm, nu, pr, fa) (nI t) x := by
  have h1 := H.1 t ht
  by_cases h0 : x < 0
  · exact br_t h0 h
  · refine br_f h0 ⟨vp_in_nI ht (by decide), ?_⟩
    rw [nI_clamp (by omega), h1.2]
    exact br_t (hp.resolve_left h0) h
theorem mx_hc {post : Int32 → Prop} {gc pc tm : Int32} {ce rc tk co ln ki : Nat → Int32} {nm : Nat → Int64} {nu pr : Nat → Int32} {fa : Nat → Int64} {n : Nat → Nat} {D : Nat → Nat → Int32} (H : mq_TX n D ce rc) {c p : Nat} (hc : c < 6) (hp : p < n (c / 3)) (h : post 1) : wpX_hasCell post (gc, pc, tm, ce, rc, tk, co, ln, ki, nm, nu, pr, fa) (nI c) (nI p) := by
  refine br_f (nI_pos (by omega)) (br_f (nI_ge (b := 6) hc (by decide)) ⟨by decide, ?_⟩)
  rw [mi_d3 hc]
  exact mx_hr H (by omega) hp (br_f (by decide) h)
theorem mx_hcn {post : Int32 → Prop} {gc pc tm : Int32} {ce rc tk co ln ki : Nat → Int32} {nm : Nat → Int64} {nu pr : Nat → Int32} {fa : Nat → Int64} {n : Nat → Nat} {D : Nat → Nat → Int32} (H : mq_TX n D ce rc) {x y : Int32} (hc : x < 0 ∨ nI 6 ≤ x ∨ ∃ c, c < 6 ∧ x = nI c ∧ (y < 0 ∨ nI (n (c / 3)) ≤ y)) (h : post 0) : wpX_hasCell post (gc, pc, tm, ce, rc, tk, co, ln, ki, nm, nu, pr, fa) x y := by
  by_cases h0 : x < 0
  · exact br_t h0 h
  · refine br_f h0 ?_
    by_cases h6 : nI 6 ≤ x
    · exact br_t h6 h
    · obtain ⟨c, hc6, rfl, hy⟩ := (hc.resolve_left h0).resolve_left h6
      refine br_f h6 ⟨by decide, ?_⟩
      rw [mi_d3 hc6]
      exact mx_hrn H (by omega) hy (br_t rfl h)
theorem my_fi {post : Int32 → Prop} {tp gr fu pp : Int32} {ce rc tk co ln : Nat → Int32} {nm : Nat → Int64} {nu gn : Nat → Int32} {gk gs : Nat → Int64} {n : Nat → Nat} {D : Nat → Nat → Int32} (H : mq_TY n D ce rc) {c p : Nat} (hc : c < 6) (hp : p < n (c / 3)) (h : post (nI (48 * (c / 3) + 3 * p + c % 3))) : wpY_find post (tp, gr, fu, pp, ce, rc, tk, co, ln, nm, nu, gn, gk, gs) (nI c) (nI p) := by
  have h1 := H.1 (c / 3) (by omega)
  refine br_f (nI_pos (by omega)) (br_f (nI_nlt (b := c) (a := 5) (by omega) (by decide)) (br_f (nI_pos (by omega)) ⟨by decide, ?_⟩))
  rw [mi_r3 hc, mi_d3 hc, mi_48, nI_add, nI_clamp (by omega), h1.2]
  exact ⟨vp_in_nI (by omega) (by decide), br_t (nI_lt hp (by omega)) ⟨by decide, by decide, h⟩⟩
theorem my_fin {post : Int32 → Prop} {tp gr fu pp : Int32} {ce rc tk co ln : Nat → Int32} {nm : Nat → Int64} {nu gn : Nat → Int32} {gk gs : Nat → Int64} {n : Nat → Nat} {D : Nat → Nat → Int32} (H : mq_TY n D ce rc) {x y : Int32} (hc : x < 0 ∨ nI 6 ≤ x ∨ ∃ c, c < 6 ∧ x = nI c ∧ (y < 0 ∨ nI (n (c / 3)) ≤ y)) (h : post (-1)) : wpY_find post (tp, gr, fu, pp, ce, rc, tk, co, ln, nm, nu, gn, gk, gs) x y := by
  by_cases h0 : x < 0
  · exact br_t h0 h
  · refine br_f h0 ?_
    obtain ⟨c, hc31, rfl⟩ := nI_of h0
    by_cases h6 : 6 ≤ c
    · exact br_t (nI_lt (a := 5) (by omega) hc31) h
    · refine br_f (nI_nlt (b := c) (a := 5) (by omega) (by decide)) ?_
      obtain ⟨c', hc6, ec, hy⟩ := (hc.resolve_left h0).resolve_left (nI_ge (b := 6) (by omega) (by decide))
      have ec : c = c' := (nI_eq hc31 (by omega)).mp ec
      subst ec
      by_cases hy0 : y < 0
      · exact br_t hy0 h
      · refine br_f hy0 ⟨by decide, ?_⟩
        have h1 := H.1 (c / 3) (by omega)
        rw [mi_d3 hc6, nI_clamp (by omega), h1.2]
        refine ⟨vp_in_nI (by omega) (by decide), br_f ?_ h⟩
        exact Int32.not_lt.mpr (hy.resolve_left hy0)
end MQ6
end
section
section MQ7
variable {n : Nat → Nat} {D : Nat → Nat → Int32} {m : Nat → Nat} {T C : Nat → Nat → Int32} {s : MqG}
/-! insert -/
theorem mx_ins1 {post : Int32 → SX → Prop} {u : SX} {x a b c : Int32} (hx : x < 0 ∨ nI 2 ≤ x) (h : post (-1) u) : wpX_insert post u x a b c := by
  obtain ⟨gc, pc, tm, ce, rc, tk, co, ln, ki, nm, nu, pr, fa⟩ := u
  unfold wpX_insert
  dsimp only
  refine mx_htn hx ?_
  exact br_t rfl h
theorem my_ins1 {post : Int32 → SY → Prop} {u : SY} {x a b c : Int32} (hx : x < 0 ∨ nI 2 ≤ x) (h : post (-1) u) : wpY_insert post u x a b c := by
  obtain ⟨tp, gr, fu, pp, ce, rc, tk, co, ln, nm, nu, gn, gk, gs⟩ := u
  by_cases h0 : x < 0
  · exact br_t h0 h
  · obtain ⟨j, hj, rfl⟩ := nI_of h0
    have h2 : 2 ≤ j := (nI_leI (by decide) hj).mp (hx.resolve_left h0)
    exact br_f h0 (br_f (nI_ge (a := 1) h2 hj) h)
theorem mx_ins2 {post : Int32 → SX → Prop} {u : SX} (H : mq_XR n D m T C s u) {t : Nat} {a b c : Int32} (ht : t < 2) (hn : n t = 16) (h : post (-2) u) : wpX_insert post u (nI t) a b c := by
  obtain ⟨gc, pc, tm, ce, rc, tk, co, ln, ki, nm, nu, pr, fa⟩ := u
  have h1 := H.1.1 t ht
  unfold wpX_insert
  dsimp only
  refine mx_ht ht ?_
  refine br_f (by decide) ⟨vp_in_nI ht (by decide), nm_r (e' := nI 16) (by rw [nI_clamp (by omega), ← hn]; exact h1.2) (br_f (by decide) h)⟩
theorem my_ins2 {post : Int32 → SY → Prop} {u : SY} (H : mq_YR n D m T C s u) {t : Nat} {a b c : Int32} (ht : t < 2) (hn : n t = 16) (h : post (-2) u) : wpY_insert post u (nI t) a b c := by
  obtain ⟨tp, gr, fu, pp, ce, rc, tk, co, ln, nm, nu, gn, gk, gs⟩ := u
  have h1 := H.1.1 t ht
  refine br_f (nI_pos (by omega)) (br_t (nI_le (b := 1) (by omega) (by decide)) ⟨vp_in_nI ht (by decide), ?_⟩)
  refine br_t ?_ h
  rw [nI_clamp (by omega), h1.2, hn]
  rfl
theorem mx_ins {post : Int32 → SX → Prop} {u : SX} (H : mq_XR n D m T C s u) {t : Nat} {a b c : Int32} (ht : t < 2) (hn : n t < 16)
    (K : ∀ u', mq_XR (mq_nS n t (n t + 1)) (mq_Din n D t a b c) m T C s u' → post (nI (n t + 1)) u') : wpX_insert post u (nI t) a b c := by
  obtain ⟨gc, pc, tm, ce, rc, tk, co, ln, ki, nm, nu, pr, fa⟩ := u
  have h1 := H.1.1 t ht
  unfold wpX_insert
  dsimp only
  refine mx_ht ht ?_
  refine br_f (by decide) ⟨vp_in_nI ht (by decide), nm_r (e' := nI (n t)) (by rw [nI_clamp (by omega)]; exact h1.2) (br_t (nI_lt (b := 16) hn (by decide)) ?_)⟩
  refine nm_r (e' := nI (3 * t)) (by rw [show (3 : Int32) = nI 3 from rfl, pk_mul, Nat.mul_comm]) ?_
  rw [nI_1, mi_a (3 * t) 2, mi_16, mi_16, mi_16, nI_clamp (by omega), nI_clamp (by omega), nI_clamp (by omega), nI_clamp (by omega), nI_1]
  exact ⟨vp_in_nI (by omega) (by decide), nm_e ⟨vp_in_nI (by omega) (by decide), nm_e ⟨vp_in_nI (by omega) (by decide), nm_e ⟨vp_in_nI ht (by decide), nm_e (K _ ⟨mq_tx_in H.1 ht hn, H.2⟩)⟩⟩⟩⟩
theorem my_ins {post : Int32 → SY → Prop} {u : SY} (H : mq_YR n D m T C s u) {t : Nat} {a b c : Int32} (ht : t < 2) (hn : n t < 16)
    (K : ∀ u', mq_YR (mq_nS n t (n t + 1)) (mq_Din n D t a b c) m T C s u' → post (nI (n t + 1)) u') : wpY_insert post u (nI t) a b c := by
  obtain ⟨tp, gr, fu, pp, ce, rc, tk, co, ln, nm, nu, gn, gk, gs⟩ := u
  have h1 := H.1.1 t ht
  refine br_f (nI_pos (by omega)) (br_t (nI_le (b := 1) (by omega) (by decide)) ⟨vp_in_nI ht (by decide), ?_⟩)
  rw [nI_clamp (by omega), h1.2]
  refine br_f (fun e => absurd ((nI_eq (b := 16) (by omega) (by decide)).mp e) (by omega)) ⟨vp_in_nI ht (by decide), nm_r (mi_48 t (n t)) ?_⟩
  rw [nI_1, mi_a (48 * t + 3 * n t) 2, nI_clamp (by omega), nI_clamp (by omega), nI_clamp (by omega), nI_1]
  refine ⟨vp_in_nI (by omega) (by decide), nm_e ⟨vp_in_nI (by omega) (by decide), nm_e ⟨vp_in_nI (by omega) (by decide), nm_e ⟨vp_in_nI ht (by decide), vp_in_nI ht (by decide), nm_e ⟨vp_in_nI ht (by decide), ?_⟩⟩⟩⟩⟩
  rw [pk_us]
  exact K _ ⟨mq_ty_in H.1 ht hn, H.2⟩
theorem i_vc_insert {k : Nat} {u : SX} {v : SY} (I : i_Rel k u v) (hk : k + 5 ≤ 2560) (v1 : Int32) (v2 : Int32) (v3 : Int32) (v4 : Int32) : wpX_insert (fun r u' => wpY_insert (fun r' v' => r' = r ∧ i_Rel (k + 5) u' v') v v1 v2 v3 v4) u v1 v2 v3 v4 := by
  rcases pk_ix v1 (n := 2) (by decide) with h | h | ⟨t, ht, rfl⟩
  · exact mx_ins1 (Or.inl h) (my_ins1 (Or.inl h) ⟨rfl, I⟩)
  · exact mx_ins1 (Or.inr h) (my_ins1 (Or.inr h) ⟨rfl, I⟩)
  · have I2 := I
    obtain ⟨n, D, m, T, C, s, hI, hX, hY⟩ := I
    have hn : n t ≤ 16 := by obtain ⟨gc, pc, tm, ce, rc, tk, co, ln, ki, nm, nu, pr, fa⟩ := u; exact (hX.1.1 t ht).1
    by_cases h16 : n t = 16
    · exact mx_ins2 hX ht h16 (my_ins2 hY ht h16 ⟨rfl, I2⟩)
    · exact mx_ins hX ht (by omega) (fun u' hX' => my_ins hY ht (by omega) (fun v' hY' => ⟨rfl, _, _, _, _, _, _, hI, hX', hY'⟩))
/-! set, cell, rows -/
theorem mq_colc {n : Nat → Nat} (x y : Int32) (hn : ∀ t, t < 2 → n t ≤ 16) : (x < 0 ∨ nI 6 ≤ x ∨ ∃ c, c < 6 ∧ x = nI c ∧ (y < 0 ∨ nI (n (c / 3)) ≤ y)) ∨ ∃ c p, c < 6 ∧ p < n (c / 3) ∧ x = nI c ∧ y = nI p := by
  rcases pk_ix x (n := 6) (by decide) with h | h | ⟨c, hc, rfl⟩
  · exact Or.inl (Or.inl h)
  · exact Or.inl (Or.inr (Or.inl h))
  · have h16 := hn (c / 3) (by omega)
    rcases pk_ix y (n := n (c / 3)) (by omega) with h | h | ⟨p, hp, rfl⟩
    · exact Or.inl (Or.inr (Or.inr ⟨c, hc, rfl, Or.inl h⟩))
    · exact Or.inl (Or.inr (Or.inr ⟨c, hc, rfl, Or.inr h⟩))
    · exact Or.inr ⟨c, p, hc, hp, rfl, rfl⟩
theorem mx_n16 {u : SX} (H : mq_XR n D m T C s u) : ∀ t, t < 2 → n t ≤ 16 := by
  obtain ⟨gc, pc, tm, ce, rc, tk, co, ln, ki, nm, nu, pr, fa⟩ := u
  exact fun t ht => (H.1.1 t ht).1
theorem mx_set {post : Int32 → SX → Prop} {u : SX} (H : mq_XR n D m T C s u) {c p : Nat} {a : Int32} (hc : c < 6) (hp : p < n (c / 3))
    (K : ∀ u', mq_XR n (mq_Dse D c p a) m T C s u' → post (nI (n (c / 3))) u') : wpX_set post u (nI c) (nI p) a := by
  obtain ⟨gc, pc, tm, ce, rc, tk, co, ln, ki, nm, nu, pr, fa⟩ := u
  have h1 := H.1.1 (c / 3) (by omega)
  unfold wpX_set
  dsimp only
  refine mx_hc H.1 hc hp ?_
  refine br_f (by decide) ?_
  rw [mi_16, mi_d3 hc, nI_clamp (by omega), nI_clamp (by omega), h1.2]
  exact ⟨vp_in_nI (by omega) (by decide), nm_e ⟨by decide, vp_in_nI (by omega) (by decide), K _ ⟨mq_tx_se H.1 hc hp, H.2⟩⟩⟩
theorem my_set {post : Int32 → SY → Prop} {u : SY} (H : mq_YR n D m T C s u) {c p : Nat} {a : Int32} (hc : c < 6) (hp : p < n (c / 3))
    (K : ∀ u', mq_YR n (mq_Dse D c p a) m T C s u' → post (nI (n (c / 3))) u') : wpY_set post u (nI c) (nI p) a := by
  obtain ⟨tp, gr, fu, pp, ce, rc, tk, co, ln, nm, nu, gn, gk, gs⟩ := u
  have h1 := H.1.1 (c / 3) (by omega)
  unfold wpY_set
  dsimp only
  refine my_fi H.1 hc hp ?_
  refine br_t (nI_pos' (by omega)) ?_
  rw [mi_d3 hc, nI_clamp (by omega), nI_clamp (by omega), h1.2]
  exact ⟨vp_in_nI (by omega) (by decide), nm_e ⟨by decide, vp_in_nI (by omega) (by decide), K _ ⟨mq_ty_se H.1 hc hp, H.2⟩⟩⟩
theorem mx_setn {post : Int32 → SX → Prop} {u : SX} (H : mq_XR n D m T C s u) {x y a : Int32} (hc : x < 0 ∨ nI 6 ≤ x ∨ ∃ c, c < 6 ∧ x = nI c ∧ (y < 0 ∨ nI (n (c / 3)) ≤ y)) (h : post (-1) u) : wpX_set post u x y a := by
  obtain ⟨gc, pc, tm, ce, rc, tk, co, ln, ki, nm, nu, pr, fa⟩ := u
  unfold wpX_set
  dsimp only
  refine mx_hcn H.1 hc ?_
  exact br_t rfl h
theorem my_setn {post : Int32 → SY → Prop} {u : SY} (H : mq_YR n D m T C s u) {x y a : Int32} (hc : x < 0 ∨ nI 6 ≤ x ∨ ∃ c, c < 6 ∧ x = nI c ∧ (y < 0 ∨ nI (n (c / 3)) ≤ y)) (h : post (-1) u) : wpY_set post u x y a := by
  obtain ⟨tp, gr, fu, pp, ce, rc, tk, co, ln, nm, nu, gn, gk, gs⟩ := u
  unfold wpY_set
  dsimp only
  refine my_fin H.1 hc ?_
  exact br_f (by decide) h
theorem mx_cell {post : Int32 → Prop} {u : SX} (H : mq_XR n D m T C s u) {c p : Nat} (hc : c < 6) (hp : p < n (c / 3)) (h : post (D c p)) : wpX_cell post u (nI c) (nI p) := by
  obtain ⟨gc, pc, tm, ce, rc, tk, co, ln, ki, nm, nu, pr, fa⟩ := u
  have h1 := H.1.1 (c / 3) (by omega)
  unfold wpX_cell
  dsimp only
  refine mx_hc H.1 hc hp ?_
  refine br_f (by decide) ?_
  rw [mi_16, nI_clamp (by omega), Nat.mul_comm, H.1.2 c hc p hp]
  exact ⟨vp_in_nI (by omega) (by decide), h⟩
theorem my_cell {post : Int32 → Prop} {u : SY} (H : mq_YR n D m T C s u) {c p : Nat} (hc : c < 6) (hp : p < n (c / 3)) (h : post (D c p)) : wpY_cell post u (nI c) (nI p) := by
  obtain ⟨tp, gr, fu, pp, ce, rc, tk, co, ln, nm, nu, gn, gk, gs⟩ := u
  have h1 := H.1.1 (c / 3) (by omega)
  unfold wpY_cell
  dsimp only
  refine my_fi H.1 hc hp ?_
  refine br_t (nI_pos' (by omega)) ?_
  rw [nI_clamp (by omega), H.1.2 c hc p hp]
  exact ⟨vp_in_nI (by omega) (by decide), h⟩
theorem mx_celln {post : Int32 → Prop} {u : SX} (H : mq_XR n D m T C s u) {x y : Int32} (hc : x < 0 ∨ nI 6 ≤ x ∨ ∃ c, c < 6 ∧ x = nI c ∧ (y < 0 ∨ nI (n (c / 3)) ≤ y)) (h : post 0) : wpX_cell post u x y := by
  obtain ⟨gc, pc, tm, ce, rc, tk, co, ln, ki, nm, nu, pr, fa⟩ := u
  unfold wpX_cell
  dsimp only
  refine mx_hcn H.1 hc ?_
  exact br_t rfl h
theorem my_celln {post : Int32 → Prop} {u : SY} (H : mq_YR n D m T C s u) {x y : Int32} (hc : x < 0 ∨ nI 6 ≤ x ∨ ∃ c, c < 6 ∧ x = nI c ∧ (y < 0 ∨ nI (n (c / 3)) ≤ y)) (h : post 0) : wpY_cell post u x y := by
  obtain ⟨tp, gr, fu, pp, ce, rc, tk, co, ln, nm, nu, gn, gk, gs⟩ := u
  unfold wpY_cell
  dsimp only
  refine my_fin H.1 hc ?_
  exact br_f (by decide) h
theorem i_vc_set {k : Nat} {u : SX} {v : SY} (I : i_Rel k u v) (hk : k + 5 ≤ 2560) (v1 : Int32) (v2 : Int32) (v3 : Int32) : wpX_set (fun r u' => wpY_set (fun r' v' => r' = r ∧ i_Rel (k + 5) u' v') v v1 v2 v3) u v1 v2 v3 := by
  have I2 := I
  obtain ⟨n, D, m, T, C, s, hI, hX, hY⟩ := I
  rcases mq_colc v1 v2 (mx_n16 hX) with h | ⟨c, p, hc, hp, rfl, rfl⟩
  · exact mx_setn hX h (my_setn hY h ⟨rfl, I2⟩)
  · exact mx_set hX hc hp (fun u' hX' => my_set hY hc hp (fun v' hY' => ⟨rfl, _, _, _, _, _, _, hI, hX', hY'⟩))
theorem i_vc_cell {k : Nat} {u : SX} {v : SY} (I : i_Rel k u v) (hk : k + 5 ≤ 2560) (v1 : Int32) (v2 : Int32) : wpX_cell (fun r => wpY_cell (fun r' => r' = r ∧ i_Rel (k + 5) u v) v v1 v2) u v1 v2 := by
  have I2 := I
  obtain ⟨n, D, m, T, C, s, hI, hX, hY⟩ := I
  rcases mq_colc v1 v2 (mx_n16 hX) with h | ⟨c, p, hc, hp, rfl, rfl⟩
  · exact mx_celln hX h (my_celln hY h ⟨rfl, I2⟩)
  · exact mx_cell hX hc hp (my_cell hY hc hp ⟨rfl, I2⟩)
theorem mx_rows {post : Int32 → Prop} {u : SX} (H : mq_XR n D m T C s u) {t : Nat} (ht : t < 2) (h : post (nI (n t))) : wpX_rows post u (nI t) := by
  obtain ⟨gc, pc, tm, ce, rc, tk, co, ln, ki, nm, nu, pr, fa⟩ := u
  have h1 := H.1.1 t ht
  unfold wpX_rows
  dsimp only
  refine mx_ht ht ?_
  refine br_f (by decide) ⟨vp_in_nI ht (by decide), ?_⟩
  rw [nI_clamp (by omega), h1.2]
  exact h
theorem my_rows {post : Int32 → Prop} {u : SY} (H : mq_YR n D m T C s u) {t : Nat} (ht : t < 2) (h : post (nI (n t))) : wpY_rows post u (nI t) := by
  obtain ⟨tp, gr, fu, pp, ce, rc, tk, co, ln, nm, nu, gn, gk, gs⟩ := u
  have h1 := H.1.1 t ht
  refine br_f (nI_pos (by omega)) (br_t (nI_le (b := 1) (by omega) (by decide)) ⟨vp_in_nI ht (by decide), ?_⟩)
  rw [nI_clamp (by omega), h1.2]
  exact h
theorem mx_rowsn {post : Int32 → Prop} {u : SX} {x : Int32} (hx : x < 0 ∨ nI 2 ≤ x) (h : post (-1)) : wpX_rows post u x := by
  obtain ⟨gc, pc, tm, ce, rc, tk, co, ln, ki, nm, nu, pr, fa⟩ := u
  unfold wpX_rows
  dsimp only
  refine mx_htn hx ?_
  exact br_t rfl h
theorem my_rowsn {post : Int32 → Prop} {u : SY} {x : Int32} (hx : x < 0 ∨ nI 2 ≤ x) (h : post (-1)) : wpY_rows post u x := by
  obtain ⟨tp, gr, fu, pp, ce, rc, tk, co, ln, nm, nu, gn, gk, gs⟩ := u
  by_cases h0 : x < 0
  · exact br_t h0 h
  · obtain ⟨j, hj, rfl⟩ := nI_of h0
    have h2 : 2 ≤ j := (nI_leI (by decide) hj).mp (hx.resolve_left h0)
    exact br_f h0 (br_f (nI_ge (a := 1) h2 hj) h)
theorem i_vc_rows {k : Nat} {u : SX} {v : SY} (I : i_Rel k u v) (hk : k + 5 ≤ 2560) (v1 : Int32) : wpX_rows (fun r => wpY_rows (fun r' => r' = r ∧ i_Rel (k + 5) u v) v v1) u v1 := by
  rcases pk_ix v1 (n := 2) (by decide) with h | h | ⟨t, ht, rfl⟩
  · exact mx_rowsn (Or.inl h) (my_rowsn (Or.inl h) ⟨rfl, I⟩)
  · exact mx_rowsn (Or.inr h) (my_rowsn (Or.inr h) ⟨rfl, I⟩)
  · have I2 := I
    obtain ⟨n, D, m, T, C, s, hI, hX, hY⟩ := I
    exact mx_rows hX ht (my_rows hY ht ⟨rfl, I2⟩)
/-! remove -/
theorem mx_re48 {post : Int32 → SX → Prop} {J : Int32 → (Nat → Int32) → (Nat → Int32) → (Nat → Int32) → (Nat → Int32) → (Nat → Int32) → (Nat → Int32) → (Nat → Int64) → (Nat → Int32) → (Nat → Int32) → (Nat → Int64) → Prop} {x1 x2 x4 : Int32} {gc pc tm : Int32} {ce rc tk co ln ki : Nat → Int32} {nm : Nat → Int64} {nu pr : Nat → Int32} {fa : Nat → Int64} {c p L : Nat} (hc : c < 6) (hL : L < 16)
    (K : J (nI (c + 1)) (mq_xr ce (c * 16) p L) rc tk co ln ki nm nu pr fa) :
    ∀ d q, p ≤ q → q + d = L → wX_remove_48 post J x1 x2 (nI L) x4 (nI c) gc pc tm (d + 1) (nI q) (mq_xr ce (c * 16) p q) rc tk co ln ki nm nu pr fa := by
  intro d
  induction d with
  | zero =>
    intro q hq e
    have e : q = L := by omega
    subst e
    exact br_t (nI_le (Nat.le_refl _) (by omega)) (nm_r (nI_1 c) K)
  | succ d ih =>
    intro q hq e
    refine br_f (nI_ge (by omega) (by omega)) ?_
    rw [mi_16, nI_1, nI_1, nI_clamp (by omega), nI_clamp (by omega), mq_xr_s hq]
    exact ⟨vp_in_nI (by omega) (by decide), vp_in_nI (by omega) (by decide), nm_e (nm_e (ih (q + 1) (by omega) (by omega)))⟩
theorem mx_re36 {post : Int32 → SX → Prop} {gc pc tm : Int32} {ce rc tk co ln ki : Nat → Int32} {nm : Nat → Int64} {nu pr : Nat → Int32} {fa : Nat → Int64} {t p L : Nat} (ht : t < 2) (hL : L < 16) (hp : p ≤ L)
    (K : post (nI L) (gc, pc, tm, mq_xo ce (3 * t) p L 3, upd rc t (nI L), tk, co, ln, ki, nm, nu, pr, fa)) :
    ∀ d k, k + d = 3 → wX_remove_36 post (nI t) (nI p) (nI L) (nI (3 * t)) gc pc tm (d + 1) (nI (3 * t + k)) (mq_xo ce (3 * t) p L k) rc tk co ln ki nm nu pr fa := by
  intro d
  induction d with
  | zero =>
    intro k e
    have e : k = 3 := by omega
    subst e
    refine br_t (by rw [mi_a (3 * t) 3]; exact nI_le (Nat.le_refl _) (by omega)) ⟨vp_in_nI ht (by decide), ?_⟩
    rw [nI_clamp (by omega)]
    exact nm_e K
  | succ d ih =>
    intro k e
    refine br_f (by rw [mi_a (3 * t) 3]; exact nI_ge (by omega) (by omega)) ⟨L - p + 1, ?_⟩
    have h := mx_re48 (post := post) (J := wX_remove_36 post (nI t) (nI p) (nI L) (nI (3 * t)) gc pc tm (d + 1)) (x1 := nI t) (x2 := nI p) (x4 := nI (3 * t)) (ce := mq_xo ce (3 * t) p L k) (rc := rc) (tk := tk) (co := co) (ln := ln) (ki := ki) (nm := nm) (nu := nu) (pr := pr) (fa := fa) (gc := gc) (pc := pc) (tm := tm) (c := 3 * t + k) (p := p) (L := L) (by omega) hL (ih (k + 1) (by omega)) (L - p) p (Nat.le_refl _) (by omega)
    rw [mq_xr_0] at h
    exact h
theorem mx_re {post : Int32 → SX → Prop} {u : SX} (H : mq_XR n D m T C s u) {t p : Nat} (ht : t < 2) (hp : p < n t)
    (K : ∀ u', mq_XR (mq_nS n t (n t - 1)) (mq_Dre D t p) m T C s u' → post (nI (n t - 1)) u') : wpX_remove post u (nI t) (nI p) := by
  obtain ⟨gc, pc, tm, ce, rc, tk, co, ln, ki, nm, nu, pr, fa⟩ := u
  have h1 := H.1.1 t ht
  unfold wpX_remove
  dsimp only
  refine mx_ht ht ?_
  refine br_f (by decide) ?_
  refine mx_hr H.1 ht hp ?_
  refine br_f (by decide) ⟨vp_in_nI ht (by decide), ?_⟩
  refine nm_r (e' := nI (n t - 1)) (by rw [nI_clamp (by omega), h1.2, mn_s (by omega)]) ?_
  refine nm_r (e' := nI (3 * t)) (by rw [show (3 : Int32) = nI 3 from rfl, pk_mul, Nat.mul_comm]) ?_
  exact ⟨4, mx_re36 ht (by omega) (by omega) (K _ ⟨mq_tx_re H.1 ht hp, H.2⟩) 3 0 rfl⟩
theorem my_re44 {post : Int32 → SY → Prop} {tp gr fu pp : Int32} {ce rc tk co ln : Nat → Int32} {nm : Nat → Int64} {nu gn : Nat → Int32} {gk gs : Nat → Int64} {t L lo : Nat} (ht : t < 2) (hL : L < 16) (hrc : rc t = nI L)
    (K : post (nI L) (tp, gr, fu, pp, mq_yr ce lo (48 * t + 3 * L), rc, tk, co, ln, nm, nu, gn, gk, gs)) :
    ∀ d q, lo ≤ q → q + d = 48 * t + 3 * L → wY_remove_44 post (nI t) tp gr fu pp (d + 1) (nI q) (mq_yr ce lo q) rc tk co ln nm nu gn gk gs := by
  intro d
  induction d with
  | zero =>
    intro q hq e
    have e : q = 48 * t + 3 * L := by omega
    subst e
    refine ⟨vp_in_nI ht (by decide), ?_⟩
    rw [nI_clamp (by omega), hrc, mi_48]
    exact br_t (nI_le (Nat.le_refl _) (by omega)) ⟨vp_in_nI ht (by decide), K⟩
  | succ d ih =>
    intro q hq e
    refine ⟨vp_in_nI ht (by decide), ?_⟩
    rw [nI_clamp (n := t) (by omega), hrc, mi_48]
    refine br_f (nI_ge (by omega) (by omega)) ?_
    rw [mi_a q 3, nI_clamp (by omega), nI_clamp (by omega), mq_yr_s hq]
    exact ⟨vp_in_nI (by omega) (by decide), vp_in_nI (by omega) (by decide), nm_e (nm_r (nI_1 q) (ih (q + 1) (by omega) (by omega)))⟩
theorem my_re {post : Int32 → SY → Prop} {u : SY} (H : mq_YR n D m T C s u) {t p : Nat} (ht : t < 2) (hp : p < n t)
    (K : ∀ u', mq_YR (mq_nS n t (n t - 1)) (mq_Dre D t p) m T C s u' → post (nI (n t - 1)) u') : wpY_remove post u (nI t) (nI p) := by
  obtain ⟨tp, gr, fu, pp, ce, rc, tk, co, ln, nm, nu, gn, gk, gs⟩ := u
  have h1 := H.1.1 t ht
  refine br_f (nI_pos (by omega)) (br_f (nI_nlt (a := 1) (by omega) (by decide)) (br_f (nI_pos (by omega)) ⟨vp_in_nI ht (by decide), ?_⟩))
  rw [nI_clamp (by omega), h1.2]
  refine br_t (nI_lt hp (by omega)) ⟨vp_in_nI ht (by decide), vp_in_nI ht (by decide), nm_r (e' := upd rc t (nI (n t - 1))) (by rw [mn_s (by omega)]) (nm_r (mi_48 t p) ⟨3 * (n t - 1 - p) + 1, ?_⟩)⟩
  have h := my_re44 (post := post) (tp := tp) (gr := gr) (fu := fu) (pp := pp) (ce := ce) (rc := upd rc t (nI (n t - 1))) (tk := tk) (co := co) (ln := ln) (nm := nm) (nu := nu) (gn := gn) (gk := gk) (gs := gs) (lo := 48 * t + 3 * p) ht (L := n t - 1) (by omega) pk_us (K _ ⟨mq_ty_re H.1 ht hp, H.2⟩) (3 * (n t - 1 - p)) (48 * t + 3 * p) (Nat.le_refl _) (by omega)
  rw [mq_yr_0] at h
  exact h
theorem mx_ren {post : Int32 → SX → Prop} {u : SX} (H : mq_XR n D m T C s u) {x y : Int32} (hx : x < 0 ∨ nI 2 ≤ x ∨ ∃ t, t < 2 ∧ x = nI t ∧ (y < 0 ∨ nI (n t) ≤ y)) (h : post (-1) u) : wpX_remove post u x y := by
  obtain ⟨gc, pc, tm, ce, rc, tk, co, ln, ki, nm, nu, pr, fa⟩ := u
  unfold wpX_remove
  dsimp only
  rcases hx with hx | hx | ⟨t, ht, rfl, hy⟩
  · refine mx_htn (Or.inl hx) ?_
    exact br_t rfl h
  · refine mx_htn (Or.inr hx) ?_
    exact br_t rfl h
  · refine mx_ht ht ?_
    refine br_f (by decide) ?_
    refine mx_hrn H.1 ht hy ?_
    exact br_t rfl h
theorem my_ren {post : Int32 → SY → Prop} {u : SY} (H : mq_YR n D m T C s u) {x y : Int32} (hx : x < 0 ∨ nI 2 ≤ x ∨ ∃ t, t < 2 ∧ x = nI t ∧ (y < 0 ∨ nI (n t) ≤ y)) (h : post (-1) u) : wpY_remove post u x y := by
  obtain ⟨tp, gr, fu, pp, ce, rc, tk, co, ln, nm, nu, gn, gk, gs⟩ := u
  by_cases h0 : x < 0
  · exact br_t h0 h
  · obtain ⟨j, hj, rfl⟩ := nI_of h0
    rcases hx.resolve_left h0 with hx | ⟨t, ht, e, hy⟩
    · have h2 : 2 ≤ j := (nI_leI (by decide) hj).mp hx
      exact br_f h0 (br_t (nI_lt (a := 1) (by omega) hj) h)
    · have e : j = t := (nI_eq hj (by omega)).mp e
      subst e
      have h1 := H.1.1 j ht
      refine br_f h0 (br_f (nI_nlt (a := 1) (by omega) (by decide)) ?_)
      by_cases hy0 : y < 0
      · exact br_t hy0 h
      · refine br_f hy0 ⟨vp_in_nI ht (by decide), ?_⟩
        rw [nI_clamp (by omega), h1.2]
        exact br_f (Int32.not_lt.mpr (hy.resolve_left hy0)) h
theorem i_vc_remove {k : Nat} {u : SX} {v : SY} (I : i_Rel k u v) (hk : k + 5 ≤ 2560) (v1 : Int32) (v2 : Int32) : wpX_remove (fun r u' => wpY_remove (fun r' v' => r' = r ∧ i_Rel (k + 5) u' v') v v1 v2) u v1 v2 := by
  have I2 := I
  obtain ⟨n, D, m, T, C, s, hI, hX, hY⟩ := I
  rcases pk_ix v1 (n := 2) (by decide) with h | h | ⟨t, ht, rfl⟩
  · exact mx_ren hX (Or.inl h) (my_ren hY (Or.inl h) ⟨rfl, I2⟩)
  · exact mx_ren hX (Or.inr (Or.inl h)) (my_ren hY (Or.inr (Or.inl h)) ⟨rfl, I2⟩)
  · have h16 := mx_n16 hX t ht
    rcases pk_ix v2 (n := n t) (by omega) with h | h | ⟨p, hp, rfl⟩
    · exact mx_ren hX (Or.inr (Or.inr ⟨t, ht, rfl, Or.inl h⟩)) (my_ren hY (Or.inr (Or.inr ⟨t, ht, rfl, Or.inl h⟩)) ⟨rfl, I2⟩)
    · exact mx_ren hX (Or.inr (Or.inr ⟨t, ht, rfl, Or.inr h⟩)) (my_ren hY (Or.inr (Or.inr ⟨t, ht, rfl, Or.inr h⟩)) ⟨rfl, I2⟩)
    · exact mx_re hX ht hp (fun u' hX' => my_re hY ht hp (fun v' hY' => ⟨rfl, _, _, _, _, _, _, hI, hX', hY'⟩))
end MQ7
end
section
section MQ8
variable {n : Nat → Nat} {D : Nat → Nat → Int32} {m : Nat → Nat} {T C : Nat → Nat → Int32} {s : MqG}
def mq_mp (t : Int32) : Prop := (¬ t < -1 ∧ t ≤ 5) ∨ (¬ t < 10 ∧ t ≤ 16) ∨ (¬ t < 20 ∧ t ≤ 23) ∨ (¬ t < 30 ∧ ¬ 34 < t)
theorem mx_mp {post : Int32 → Prop} {t : Int32} (h1 : mq_mp t → post 1) (h0 : ¬ mq_mp t → post 0) : wpX_mayBePut post t := by
  have q4 : ¬ (¬ t < -1 ∧ t ≤ 5) → ¬ (¬ t < 10 ∧ t ≤ 16) → ¬ (¬ t < 20 ∧ t ≤ 23) → wX_mayBePut_34 post t := by
    intro a1 a2 a3
    have b0 : ¬ (¬ t < 30 ∧ ¬ 34 < t) → post 0 := fun a4 => h0 (fun z => z.elim a1 (fun z => z.elim a2 (fun z => z.elim a3 a4)))
    exact br_c (fun c => b0 (fun z => z.1 c)) (fun c => br_c (fun c' => b0 (fun z => z.2 c')) (fun c' => h1 (Or.inr (Or.inr (Or.inr ⟨c, c'⟩)))))
  have q3 : ¬ (¬ t < -1 ∧ t ≤ 5) → ¬ (¬ t < 10 ∧ t ≤ 16) → wX_mayBePut_22 post t := by
    intro a1 a2
    exact br_c (fun c => q4 a1 a2 (fun z => z.1 c)) (fun c => br_c (fun c' => h1 (Or.inr (Or.inr (Or.inl ⟨c, c'⟩)))) (fun c' => q4 a1 a2 (fun z => c' z.2)))
  have q2 : ¬ (¬ t < -1 ∧ t ≤ 5) → wX_mayBePut_10 post t := by
    intro a1
    exact br_c (fun c => q3 a1 (fun z => z.1 c)) (fun c => br_c (fun c' => h1 (Or.inr (Or.inl ⟨c, c'⟩))) (fun c' => q3 a1 (fun z => c' z.2)))
  exact br_c (fun c => q2 (fun z => z.1 c)) (fun c => br_c (fun c' => h1 (Or.inl ⟨c, c'⟩)) (fun c' => q2 (fun z => c' z.2)))
theorem my_mp {post : Int32 → Prop} {t : Int32} (h1 : mq_mp t → post 1) (h0 : ¬ mq_mp t → post 0) : wpY_valid post t := by
  have q4 : ¬ (¬ t < -1 ∧ t ≤ 5) → ¬ (¬ t < 10 ∧ t ≤ 16) → ¬ (¬ t < 20 ∧ t ≤ 23) → wY_valid_34 post t := by
    intro a1 a2 a3
    have b0 : ¬ (¬ t < 30 ∧ ¬ 34 < t) → post 0 := fun a4 => h0 (fun z => z.elim a1 (fun z => z.elim a2 (fun z => z.elim a3 a4)))
    exact br_c (fun c => b0 (fun z => z.1 c)) (fun c => br_c (fun c' => b0 (fun z => z.2 c')) (fun c' => h1 (Or.inr (Or.inr (Or.inr ⟨c, c'⟩)))))
  have q3 : ¬ (¬ t < -1 ∧ t ≤ 5) → ¬ (¬ t < 10 ∧ t ≤ 16) → wY_valid_22 post t := by
    intro a1 a2
    exact br_c (fun c => q4 a1 a2 (fun z => z.1 c)) (fun c => br_c (fun c' => h1 (Or.inr (Or.inr (Or.inl ⟨c, c'⟩)))) (fun c' => q4 a1 a2 (fun z => c' z.2)))
  have q2 : ¬ (¬ t < -1 ∧ t ≤ 5) → wY_valid_10 post t := by
    intro a1
    exact br_c (fun c => q3 a1 (fun z => z.1 c)) (fun c => br_c (fun c' => h1 (Or.inr (Or.inl ⟨c, c'⟩))) (fun c' => q3 a1 (fun z => c' z.2)))
  exact br_c (fun c => q2 (fun z => z.1 c)) (fun c => br_c (fun c' => h1 (Or.inl ⟨c, c'⟩)) (fun c' => q2 (fun z => c' z.2)))
theorem mq_tab : ∀ j, j < 35 → (j ≤ 5 ∨ (10 ≤ j ∧ j ≤ 16) ∨ (20 ≤ j ∧ j ≤ 23) ∨ 30 ≤ j) → nI j ∈ mq_tk := by decide +kernel
theorem mq_mp_tk {t : Int32} (h : mq_mp t) (h1 : ¬ t = -1) : t ∈ mq_tk := by
  by_cases h0 : t < 0
  · exfalso
    have l1 : ((-1 : Int32)).toInt = -1 := by decide
    have l0 : ((0 : Int32)).toInt = 0 := by decide
    have l10 : ((10 : Int32)).toInt = 10 := by decide
    have l20 : ((20 : Int32)).toInt = 20 := by decide
    have l30 : ((30 : Int32)).toInt = 30 := by decide
    have h2 : t.toInt ≠ -1 := fun e => h1 (Int32.toInt_inj.mp (e.trans l1.symm))
    unfold mq_mp at h
    simp only [Int32.lt_iff_toInt_lt, Int32.le_iff_toInt_le, l1, l0, l10, l20, l30] at h h0
    omega
  · obtain ⟨j, hj, rfl⟩ := nI_of h0
    unfold mq_mp at h
    have l5 : nI j ≤ 5 ↔ j ≤ 5 := nI_leI (b := 5) hj (by decide)
    have l10 : nI j < 10 ↔ j < 10 := nI_ltI (b := 10) hj (by decide)
    have l16 : nI j ≤ 16 ↔ j ≤ 16 := nI_leI (b := 16) hj (by decide)
    have l20 : nI j < 20 ↔ j < 20 := nI_ltI (b := 20) hj (by decide)
    have l23 : nI j ≤ 23 ↔ j ≤ 23 := nI_leI (b := 23) hj (by decide)
    have l30 : nI j < 30 ↔ j < 30 := nI_ltI (b := 30) hj (by decide)
    have l34 : 34 < nI j ↔ 34 < j := nI_ltI (a := 34) (by decide) hj
    rw [l5, l10, l16, l20, l23, l30, l34] at h
    exact mq_tab j (by omega) (by omega)
theorem mq_tk_pos {t : Int32} (h : t ∈ mq_tk) : 0 ≤ t := by
  revert t
  decide +kernel
theorem mq_tk_n1 {t : Int32} (h : t ∈ mq_tk) : ¬ t = -1 := by
  revert t
  decide +kernel
/-! one token more, or none -/
def mq_a1 (x : Int32) : Nat := if x = -1 then 0 else 1
def mq_m1 (m : Nat → Nat) (x : Int32) : Nat → Nat := if x = -1 then m else mq_nS m 3 (m 3 + 1)
def mq_T1 (m : Nat → Nat) (T : Nat → Nat → Int32) (x y : Int32) : Nat → Nat → Int32 := if x = -1 then T else mq_fS T 3 (m 3) y
theorem mq_m1_3 (m : Nat → Nat) (x : Int32) : mq_m1 m x 3 = m 3 + mq_a1 x := by
  unfold mq_m1 mq_a1
  by_cases e : x = -1
  · rw [if_pos e, if_pos e]; rfl
  · rw [if_neg e, if_neg e]; rfl
theorem mq_a1_le (x : Int32) : mq_a1 x ≤ 1 := by
  unfold mq_a1
  split <;> omega
theorem mq_ei_1 {m : Nat → Nat} {T : Nat → Nat → Int32} {x : Int32} (h : mq_EI m T) (hx : ¬ x = -1 → x ∈ mq_tk) : mq_EI (mq_m1 m x) (mq_T1 m T x x) := by
  unfold mq_m1 mq_T1
  by_cases e : x = -1
  · rw [if_pos e, if_pos e]; exact h
  · rw [if_neg e, if_neg e]; exact mq_ei_ad h (hx e)
theorem mp_a1 {W : Int32 → Prop} {x : Int32} (h : W (nI (mq_a1 x))) : (x = -1 → W 0) ∧ (¬ x = -1 → W 1) := by
  unfold mq_a1 at h
  by_cases e : x = -1
  · rw [if_pos e] at h
    exact br_t e h
  · rw [if_neg e] at h
    exact br_f e h
theorem mx_add {post : SX → Prop} {u : SX} (H : mq_XR n D m T C s u) {x y : Int32} (hx : ¬ x = -1) (hm : m 3 < 20)
    (K : ∀ u', mq_XR n D (mq_nS m 3 (m 3 + 1)) (mq_fS T 3 (m 3) x) (mq_fS C 3 (m 3) y) s u' → post u') : wpX_addToken post u x y := by
  obtain ⟨gc, pc, tm, ce, rc, tk, co, ln, ki, nm, nu, pr, fa⟩ := u
  have h1 := (H.2.1.1 3 (by decide)).2
  refine nm_r h1 (br_f hx (br_t (nI_lt (b := 20) hm (by decide)) ?_))
  rw [mi_60, nI_clamp (by omega), nI_1]
  exact ⟨vp_in_nI (by omega) (by decide), nm_e ⟨vp_in_nI (by omega) (by decide), nm_e (nm_e (K _ ⟨H.1, mq_ex_ad H.2.1 hm, H.2.2⟩))⟩⟩
theorem my_add {post : SY → Prop} {u : SY} (H : mq_YR n D m T C s u) {x y : Int32} (hx : 0 ≤ x) (hm : m 3 < 20)
    (K : ∀ u', mq_YR n D (mq_nS m 3 (m 3 + 1)) (mq_fS T 3 (m 3) x) (mq_fS C 3 (m 3) y) s u' → post u') : wpY_add post u x y := by
  obtain ⟨tp, gr, fu, pp, ce, rc, tk, co, ln, nm, nu, gn, gk, gs⟩ := u
  have h1 := (H.2.1.1 3 (by decide)).2
  refine br_t hx ?_
  rw [h1, mi_60, nI_clamp (by omega), nI_1]
  exact ⟨vp_in_nI (by omega) (by decide), nm_e ⟨vp_in_nI (by omega) (by decide), nm_e (nm_e (K _ ⟨H.1, mq_ex_ad H.2.1 hm, H.2.2⟩))⟩⟩
theorem mx_add1 {post : SX → Prop} {u : SX} (H : mq_XR n D m T C s u) {x : Int32} (hm : m 3 + mq_a1 x ≤ 20)
    (K : ∀ u', mq_XR n D (mq_m1 m x) (mq_T1 m T x x) (mq_T1 m C x 0) s u' → post u') : wpX_addToken post u x 0 := by
  unfold mq_m1 mq_T1 at K
  unfold mq_a1 at hm
  by_cases e : x = -1
  · simp only [if_pos e] at K
    have K2 := K u H
    obtain ⟨gc, pc, tm, ce, rc, tk, co, ln, ki, nm, nu, pr, fa⟩ := u
    exact nm_e (br_t e K2)
  · simp only [if_neg e] at K hm
    exact mx_add H e (by omega) K
theorem my_add1 {post : SY → Prop} {u : SY} (H : mq_YR n D m T C s u) {x : Int32} (hx : mq_mp x) (hm : m 3 + mq_a1 x ≤ 20)
    (K : ∀ u', mq_YR n D (mq_m1 m x) (mq_T1 m T x x) (mq_T1 m C x 0) s u' → post u') : wpY_add post u x 0 := by
  unfold mq_m1 mq_T1 at K
  unfold mq_a1 at hm
  by_cases e : x = -1
  · simp only [if_pos e] at K
    have K2 := K u H
    subst e
    obtain ⟨tp, gr, fu, pp, ce, rc, tk, co, ln, nm, nu, gn, gk, gs⟩ := u
    exact br_f (by decide) K2
  · simp only [if_neg e] at K hm
    exact my_add H (mq_tk_pos (mq_mp_tk hx e)) (by omega) K
/-! put -/
theorem mx_put {post : Int32 → SX → Prop} {u : SX} (H : mq_XR n D m T C s u) {a b c : Int32} (ha : mq_mp a) (hb : mq_mp b) (hc : mq_mp c) (hm : m 3 + mq_a1 a + mq_a1 b + mq_a1 c ≤ 20)
    (K : ∀ u', mq_XR n D (mq_m1 (mq_m1 (mq_m1 m a) b) c) (mq_T1 (mq_m1 (mq_m1 m a) b) (mq_T1 (mq_m1 m a) (mq_T1 m T a a) b b) c c) (mq_T1 (mq_m1 (mq_m1 m a) b) (mq_T1 (mq_m1 m a) (mq_T1 m C a 0) b 0) c 0) s u' → post 1 u') : wpX_put post u a b c := by
  have q1 := mq_m1_3 m a
  have q2 := mq_m1_3 (mq_m1 m a) b
  obtain ⟨gc, pc, tm, ce, rc, tk, co, ln, ki, nm, nu, pr, fa⟩ := u
  unfold wpX_put
  dsimp only
  refine mx_mp (fun _ => ?_) (fun z => absurd ha z)
  refine br_f (by decide) ?_
  refine mx_mp (fun _ => ?_) (fun z => absurd hb z)
  refine br_f (by decide) ?_
  refine mx_mp (fun _ => ?_) (fun z => absurd hc z)
  refine br_f (by decide) ?_
  refine mp_a1 (W := fun z => wX_put_33 post a b c z gc pc tm ce rc tk co ln ki nm nu pr fa) ?_
  refine mp_a1 (W := fun z => wX_put_43 post a b c z (nI (mq_a1 a)) gc pc tm ce rc tk co ln ki nm nu pr fa) ?_
  refine mp_a1 (W := fun z => wX_put_54 post a b c z (nI (mq_a1 a) + nI (mq_a1 b)) gc pc tm ce rc tk co ln ki nm nu pr fa) ?_
  refine nm_r (e' := nI (mq_a1 a + mq_a1 b + mq_a1 c)) (by rw [nI_add, nI_add]) ?_
  have h1 := (H.2.1.1 3 (by decide)).2
  rw [h1, nI_add]
  refine br_t (nI_le (b := 20) (by omega) (by decide)) ?_
  refine mx_add1 H (by omega) ?_
  intro u1 H1
  obtain ⟨gc, pc, tm, ce, rc, tk, co, ln, ki, nm, nu, pr, fa⟩ := u1
  refine mx_add1 H1 (by omega) ?_
  intro u2 H2
  obtain ⟨gc, pc, tm, ce, rc, tk, co, ln, ki, nm, nu, pr, fa⟩ := u2
  refine mx_add1 H2 (by omega) ?_
  intro u3 H3
  obtain ⟨gc, pc, tm, ce, rc, tk, co, ln, ki, nm, nu, pr, fa⟩ := u3
  exact K _ H3
theorem mx_putn {post : Int32 → SX → Prop} {u : SX} (H : mq_XR n D m T C s u) {a b c : Int32} (hn : ¬ mq_mp a ∨ ¬ mq_mp b ∨ ¬ mq_mp c ∨ 20 < m 3 + mq_a1 a + mq_a1 b + mq_a1 c) (h : post 0 u) : wpX_put post u a b c := by
  have ba := mq_a1_le a
  have bb := mq_a1_le b
  have bc := mq_a1_le c
  obtain ⟨gc, pc, tm, ce, rc, tk, co, ln, ki, nm, nu, pr, fa⟩ := u
  unfold wpX_put
  dsimp only
  refine mx_mp (fun ha => ?_) (fun _ => br_t rfl h)
  refine br_f (by decide) ?_
  refine mx_mp (fun hb => ?_) (fun _ => br_t rfl h)
  refine br_f (by decide) ?_
  refine mx_mp (fun hc => ?_) (fun _ => br_t rfl h)
  refine br_f (by decide) ?_
  refine mp_a1 (W := fun z => wX_put_33 post a b c z gc pc tm ce rc tk co ln ki nm nu pr fa) ?_
  refine mp_a1 (W := fun z => wX_put_43 post a b c z (nI (mq_a1 a)) gc pc tm ce rc tk co ln ki nm nu pr fa) ?_
  refine mp_a1 (W := fun z => wX_put_54 post a b c z (nI (mq_a1 a) + nI (mq_a1 b)) gc pc tm ce rc tk co ln ki nm nu pr fa) ?_
  refine nm_r (e' := nI (mq_a1 a + mq_a1 b + mq_a1 c)) (by rw [nI_add, nI_add]) ?_
  have h1 := H.2.1.1 3 (by decide)
  have h20 := h1.1
  rw [h1.2, nI_add]
  have h4 : 20 < m 3 + mq_a1 a + mq_a1 b + mq_a1 c := ((hn.resolve_left (mn_nn ha)).resolve_left (mn_nn hb)).resolve_left (mn_nn hc)
  exact br_f (nI_ge (a := 20) (by omega) (by omega)) h
theorem my_put {post : Int32 → SY → Prop} {u : SY} (H : mq_YR n D m T C s u) {a b c : Int32} (ha : mq_mp a) (hb : mq_mp b) (hc : mq_mp c) (hm : m 3 + mq_a1 a + mq_a1 b + mq_a1 c ≤ 20)
    (K : ∀ u', mq_YR n D (mq_m1 (mq_m1 (mq_m1 m a) b) c) (mq_T1 (mq_m1 (mq_m1 m a) b) (mq_T1 (mq_m1 m a) (mq_T1 m T a a) b b) c c) (mq_T1 (mq_m1 (mq_m1 m a) b) (mq_T1 (mq_m1 m a) (mq_T1 m C a 0) b 0) c 0) s u' → post 1 u') : wpY_put post u a b c := by
  have q1 := mq_m1_3 m a
  have q2 := mq_m1_3 (mq_m1 m a) b
  obtain ⟨tp, gr, fu, pp, ce, rc, tk, co, ln, nm, nu, gn, gk, gs⟩ := u
  refine mp_a1 (W := fun z => wY_put_10 post a b c z tp gr fu pp ce rc tk co ln nm nu gn gk gs) ?_
  refine mp_a1 (W := fun z => wY_put_20 post a b c z (nI (mq_a1 a)) tp gr fu pp ce rc tk co ln nm nu gn gk gs) ?_
  refine mp_a1 (W := fun z => wY_put_31 post a b c z (nI (mq_a1 a) + nI (mq_a1 b)) tp gr fu pp ce rc tk co ln nm nu gn gk gs) ?_
  refine nm_r (e' := nI (mq_a1 a + mq_a1 b + mq_a1 c)) (by rw [nI_add, nI_add]) ?_
  refine my_mp (fun _ => ?_) (fun z => absurd ha z)
  refine br_f (by decide) ?_
  refine my_mp (fun _ => ?_) (fun z => absurd hb z)
  refine br_f (by decide) ?_
  refine my_mp (fun _ => ?_) (fun z => absurd hc z)
  refine br_f (by decide) ?_
  have h1 := (H.2.1.1 3 (by decide)).2
  rw [h1, nI_add]
  refine br_t (nI_le (b := 20) (by omega) (by decide)) ?_
  refine my_add1 H ha (by omega) ?_
  intro u1 H1
  obtain ⟨tp, gr, fu, pp, ce, rc, tk, co, ln, nm, nu, gn, gk, gs⟩ := u1
  refine my_add1 H1 hb (by omega) ?_
  intro u2 H2
  obtain ⟨tp, gr, fu, pp, ce, rc, tk, co, ln, nm, nu, gn, gk, gs⟩ := u2
  refine my_add1 H2 hc (by omega) ?_
  intro u3 H3
  obtain ⟨tp, gr, fu, pp, ce, rc, tk, co, ln, nm, nu, gn, gk, gs⟩ := u3
  exact K _ H3
theorem my_putn {post : Int32 → SY → Prop} {u : SY} (H : mq_YR n D m T C s u) {a b c : Int32} (hn : ¬ mq_mp a ∨ ¬ mq_mp b ∨ ¬ mq_mp c ∨ 20 < m 3 + mq_a1 a + mq_a1 b + mq_a1 c) (h : post 0 u) : wpY_put post u a b c := by
  have ba := mq_a1_le a
  have bb := mq_a1_le b
  have bc := mq_a1_le c
  obtain ⟨tp, gr, fu, pp, ce, rc, tk, co, ln, nm, nu, gn, gk, gs⟩ := u
  refine mp_a1 (W := fun z => wY_put_10 post a b c z tp gr fu pp ce rc tk co ln nm nu gn gk gs) ?_
  refine mp_a1 (W := fun z => wY_put_20 post a b c z (nI (mq_a1 a)) tp gr fu pp ce rc tk co ln nm nu gn gk gs) ?_
  refine mp_a1 (W := fun z => wY_put_31 post a b c z (nI (mq_a1 a) + nI (mq_a1 b)) tp gr fu pp ce rc tk co ln nm nu gn gk gs) ?_
  refine nm_r (e' := nI (mq_a1 a + mq_a1 b + mq_a1 c)) (by rw [nI_add, nI_add]) ?_
  refine my_mp (fun ha => ?_) (fun _ => br_t rfl h)
  refine br_f (by decide) ?_
  refine my_mp (fun hb => ?_) (fun _ => br_t rfl h)
  refine br_f (by decide) ?_
  refine my_mp (fun hc => ?_) (fun _ => br_t rfl h)
  refine br_f (by decide) ?_
  have h1 := H.2.1.1 3 (by decide)
  have h20 := h1.1
  rw [h1.2, nI_add]
  have h4 : 20 < m 3 + mq_a1 a + mq_a1 b + mq_a1 c := ((hn.resolve_left (mn_nn ha)).resolve_left (mn_nn hb)).resolve_left (mn_nn hc)
  exact br_f (nI_ge (a := 20) (by omega) (by omega)) h
theorem i_vc_put {k : Nat} {u : SX} {v : SY} (I : i_Rel k u v) (hk : k + 5 ≤ 2560) (v1 : Int32) (v2 : Int32) (v3 : Int32) : wpX_put (fun r u' => wpY_put (fun r' v' => r' = r ∧ i_Rel (k + 5) u' v') v v1 v2 v3) u v1 v2 v3 := by
  have I2 := I
  obtain ⟨n, D, m, T, C, s, hI, hX, hY⟩ := I
  by_cases ha : mq_mp v1
  · by_cases hb : mq_mp v2
    · by_cases hc : mq_mp v3
      · by_cases hm : m 3 + mq_a1 v1 + mq_a1 v2 + mq_a1 v3 ≤ 20
        · exact mx_put hX ha hb hc hm (fun u' hX' => my_put hY ha hb hc hm (fun v' hY' => ⟨rfl, _, _, _, _, _, _, ⟨mq_ei_1 (mq_ei_1 (mq_ei_1 hI.1 (mq_mp_tk ha)) (mq_mp_tk hb)) (mq_mp_tk hc), hI.2⟩, hX', hY'⟩))
        · have h : ¬ mq_mp v1 ∨ ¬ mq_mp v2 ∨ ¬ mq_mp v3 ∨ 20 < m 3 + mq_a1 v1 + mq_a1 v2 + mq_a1 v3 := Or.inr (Or.inr (Or.inr (Nat.lt_of_not_le hm)))
          exact mx_putn hX h (my_putn hY h ⟨rfl, I2⟩)
      · exact mx_putn hX (Or.inr (Or.inr (Or.inl hc))) (my_putn hY (Or.inr (Or.inr (Or.inl hc))) ⟨rfl, I2⟩)
    · exact mx_putn hX (Or.inr (Or.inl hb)) (my_putn hY (Or.inr (Or.inl hb)) ⟨rfl, I2⟩)
  · exact mx_putn hX (Or.inl ha) (my_putn hY (Or.inl ha) ⟨rfl, I2⟩)
/-! constant -/
theorem mx_con {post : Int32 → SX → Prop} {u : SX} (H : mq_XR n D m T C s u) {y : Int32} (hm : m 3 < 20)
    (K : ∀ u', mq_XR n D (mq_nS m 3 (m 3 + 1)) (mq_fS T 3 (m 3) 40) (mq_fS C 3 (m 3) y) s u' → post 1 u') : wpX_constant post u y := by
  obtain ⟨gc, pc, tm, ce, rc, tk, co, ln, ki, nm, nu, pr, fa⟩ := u
  have h1 := (H.2.1.1 3 (by decide)).2
  refine br_t (by rw [h1]; exact nI_lt (b := 20) hm (by decide)) (mx_add H (by decide) hm ?_)
  intro u1 H1
  obtain ⟨gc, pc, tm, ce, rc, tk, co, ln, ki, nm, nu, pr, fa⟩ := u1
  exact K _ H1
theorem my_con {post : Int32 → SY → Prop} {u : SY} (H : mq_YR n D m T C s u) {y : Int32} (hm : m 3 < 20)
    (K : ∀ u', mq_YR n D (mq_nS m 3 (m 3 + 1)) (mq_fS T 3 (m 3) 40) (mq_fS C 3 (m 3) y) s u' → post 1 u') : wpY_constant post u y := by
  obtain ⟨tp, gr, fu, pp, ce, rc, tk, co, ln, nm, nu, gn, gk, gs⟩ := u
  have h1 := (H.2.1.1 3 (by decide)).2
  refine br_f (by rw [h1]; exact fun e => absurd ((nI_eq (b := 20) (by omega) (by decide)).mp e) (by omega)) (my_add H (by decide) hm ?_)
  intro u1 H1
  obtain ⟨tp, gr, fu, pp, ce, rc, tk, co, ln, nm, nu, gn, gk, gs⟩ := u1
  exact K _ H1
theorem mx_conn {post : Int32 → SX → Prop} {u : SX} (H : mq_XR n D m T C s u) {y : Int32} (hm : m 3 = 20) (h : post 0 u) : wpX_constant post u y := by
  obtain ⟨gc, pc, tm, ce, rc, tk, co, ln, ki, nm, nu, pr, fa⟩ := u
  have h1 := (H.2.1.1 3 (by decide)).2
  exact br_f (by rw [h1, hm]; decide) h
theorem my_conn {post : Int32 → SY → Prop} {u : SY} (H : mq_YR n D m T C s u) {y : Int32} (hm : m 3 = 20) (h : post 0 u) : wpY_constant post u y := by
  obtain ⟨tp, gr, fu, pp, ce, rc, tk, co, ln, nm, nu, gn, gk, gs⟩ := u
  have h1 := (H.2.1.1 3 (by decide)).2
  exact br_t (by rw [h1, hm]; rfl) h
theorem mx_m20 {u : SX} (H : mq_XR n D m T C s u) : ∀ e, e < 4 → m e ≤ 20 := by
  obtain ⟨gc, pc, tm, ce, rc, tk, co, ln, ki, nm, nu, pr, fa⟩ := u
  exact fun e he => (H.2.1.1 e he).1
theorem i_vc_constant {k : Nat} {u : SX} {v : SY} (I : i_Rel k u v) (hk : k + 5 ≤ 2560) (v1 : Int32) : wpX_constant (fun r u' => wpY_constant (fun r' v' => r' = r ∧ i_Rel (k + 5) u' v') v v1) u v1 := by
  have I2 := I
  obtain ⟨n, D, m, T, C, s, hI, hX, hY⟩ := I
  have h20 := mx_m20 hX 3 (by decide)
  by_cases h : m 3 = 20
  · exact mx_conn hX h (my_conn hY h ⟨rfl, I2⟩)
  · exact mx_con hX (by omega) (fun u' hX' => my_con hY (by omega) (fun v' hY' => ⟨rfl, _, _, _, _, _, _, ⟨mq_ei_ad hI.1 (by decide), hI.2⟩, hX', hY'⟩))
end MQ8
end
section
section MQ9
variable {n : Nat → Nat} {D : Nat → Nat → Int32} {m : Nat → Nat} {T C : Nat → Nat → Int32} {s : MqG}
/-! tokens -/
theorem mx_oc {post : Int32 → Prop} {t : Int32} (h : post (nI (mq_ar t))) : wpX_operandCount post t := by
  unfold mq_ar at h
  by_cases c5 : t ≤ 5
  · rw [if_pos (Or.inl c5)] at h
    exact br_t c5 h
  · refine br_f c5 ?_
    by_cases c40 : t = 40
    · rw [if_pos (Or.inr c40)] at h
      exact br_t c40 h
    · refine br_f c40 ?_
      rw [if_neg (fun z => z.elim c5 c40)] at h
      by_cases c15 : t = 15
      · rw [if_pos (Or.inl c15)] at h
        exact br_t c15 h
      · refine br_f c15 ?_
        by_cases c32 : t = 32
        · rw [if_pos (Or.inr (Or.inl c32))] at h
          exact br_t c32 h
        · refine br_f c32 ?_
          by_cases c33 : t = 33
          · rw [if_pos (Or.inr (Or.inr c33))] at h
            exact br_t c33 h
          · refine br_f c33 ?_
            rw [if_neg (fun z => z.elim c15 (fun z => z.elim c32 c33))] at h
            by_cases c34 : t = 34
            · rw [if_pos c34] at h
              exact br_t c34 h
            · rw [if_neg c34] at h
              exact br_f c34 h
theorem mq_tk10 {t : Int32} (h : t ∈ mq_tk) : t < 10 ↔ t ≤ 5 := by
  revert t
  decide +kernel
theorem my_oc {post : Int32 → Prop} {t : Int32} (ht : t ∈ mq_tk) (h : post (nI (mq_ar t))) : wpY_operands post t := by
  unfold mq_ar at h
  by_cases c5 : t ≤ 5
  · rw [if_pos (Or.inl c5)] at h
    exact br_t ((mq_tk10 ht).mpr c5) h
  · refine br_f (fun z => c5 ((mq_tk10 ht).mp z)) ?_
    by_cases c40 : t = 40
    · rw [if_pos (Or.inr c40)] at h
      exact br_t c40 h
    · refine br_f c40 ?_
      rw [if_neg (fun z => z.elim c5 c40)] at h
      by_cases c34 : t = 34
      · subst c34
        exact br_t rfl h
      · refine br_f c34 ?_
        by_cases c15 : t = 15
        · rw [if_pos (Or.inl c15)] at h
          exact br_t c15 h
        · refine br_f c15 ?_
          by_cases c32 : t = 32
          · rw [if_pos (Or.inr (Or.inl c32))] at h
            exact br_t c32 h
          · refine br_f c32 ?_
            by_cases c33 : t = 33
            · rw [if_pos (Or.inr (Or.inr c33))] at h
              exact br_t c33 h
            · refine br_f c33 ?_
              rw [if_neg (fun z => z.elim c15 (fun z => z.elim c32 c33)), if_neg c34] at h
              exact h
theorem mx_ok {post : Int32 → Prop} {t : Int32} {k : Nat} (hk : k < 2 ^ 31) (h : post (mq_k2 (mq_wt t k))) : wpX_operandKind post t (nI k) := by
  unfold mq_wt at h
  by_cases c30 : t = 30
  · subst c30
    exact br_t rfl (br_f (by decide) h)
  · refine br_f c30 ?_
    by_cases c31 : t = 31
    · subst c31
      exact br_t rfl (br_f (by decide) h)
    · refine br_f c31 ?_
      by_cases c32 : t = 32
      · subst c32
        exact br_t rfl (br_f (by decide) h)
      · refine br_f c32 (br_t rfl ?_)
        rw [decide_eq_false c30, decide_eq_false c31, decide_eq_false c32] at h
        by_cases c34 : t = 34
        · refine br_t c34 ?_
          rw [decide_eq_true c34] at h
          by_cases k0 : k = 0
          · subst k0
            exact br_t rfl h
          · rw [decide_eq_false k0] at h
            exact br_f (nI_ne0 (by omega) hk) h
        · rw [decide_eq_false c34] at h
          exact br_f c34 h
def mq_b1 : Bool → Int32
  | true => 1
  | false => 0
theorem mq_tk3032 {t : Int32} (h : t ∈ mq_tk) : (¬ t < 30 ∧ t ≤ 32) ↔ (t = 30 ∨ t = 31 ∨ t = 32) := by
  revert t
  decide +kernel
theorem my_wt {post : Int32 → Prop} {t : Int32} (ht : t ∈ mq_tk) {k : Nat} (hk : k < 2 ^ 31) (h : post (mq_b1 (mq_wt t k))) : wpY_wantsTruth post t (nI k) := by
  have q : ¬ (t = 30 ∨ t = 31 ∨ t = 32) → wY_wantsTruth_12 post t (nI k) := by
    intro z
    have c30 : ¬ t = 30 := fun e => z (Or.inl e)
    have c31 : ¬ t = 31 := fun e => z (Or.inr (Or.inl e))
    have c32 : ¬ t = 32 := fun e => z (Or.inr (Or.inr e))
    unfold mq_wt at h
    rw [decide_eq_false c30, decide_eq_false c31, decide_eq_false c32] at h
    by_cases c34 : t = 34
    · refine br_t c34 ?_
      rw [decide_eq_true c34] at h
      by_cases k0 : k = 0
      · subst k0
        exact br_t rfl h
      · rw [decide_eq_false k0] at h
        exact br_f (nI_ne0 (by omega) hk) h
    · rw [decide_eq_false c34] at h
      exact br_f c34 h
  refine br_c (fun c => q (fun z => ((mq_tk3032 ht).mpr z).1 c)) (fun c => br_c (fun c' => ?_) (fun c' => q (fun z => c' ((mq_tk3032 ht).mpr z).2)))
  have e : mq_wt t k = true := by
    unfold mq_wt
    rcases (mq_tk3032 ht).mp ⟨c, c'⟩ with rfl | rfl | rfl
    · rfl
    · rfl
    · rfl
  rw [e] at h
  exact h
theorem mx_rk {post : Int32 → Prop} {t : Int32} (h : post (mq_k2 (mq_tr t))) : wpX_resultKind post t := by
  unfold mq_tr at h
  by_cases c20 : t < 20
  · rw [decide_eq_false (Int32.not_le.mpr c20)] at h
    exact br_t c20 h
  · refine br_f c20 ?_
    rw [decide_eq_true (Int32.not_lt.mp c20)] at h
    by_cases c33 : 33 < t
    · rw [decide_eq_false (Int32.not_le.mpr c33)] at h
      exact br_t c33 h
    · rw [decide_eq_true (Int32.not_lt.mp c33)] at h
      exact br_f c33 h
theorem my_gt {post : Int32 → Prop} {t : Int32} (h : post (mq_b1 (mq_tr t))) : wpY_givesTruth post t := by
  unfold mq_tr at h
  by_cases c20 : t < 20
  · rw [decide_eq_false (Int32.not_le.mpr c20)] at h
    exact br_t c20 h
  · refine br_f c20 ?_
    rw [decide_eq_true (Int32.not_lt.mp c20)] at h
    by_cases c33 : 33 < t
    · rw [decide_eq_false (Int32.not_le.mpr c33)] at h
      exact br_t c33 h
    · rw [decide_eq_true (Int32.not_lt.mp c33)] at h
      exact br_f c33 h
theorem mq_k2_inj {a b : Bool} (h : mq_k2 a = mq_k2 b) : a = b := by
  revert a b
  decide
theorem mq_b1_inj {a b : Bool} (h : mq_b1 a = mq_b1 b) : a = b := by
  revert a b
  decide
theorem mq_k2_0 (b : Bool) : ¬ (0 : Int32) = mq_k2 b := by
  revert b
  decide
/-! X: kindOfPending -/
theorem mx_kp43 {post : Int32 → SX → Prop} {J : Int32 → Int32 → (Nat → Int32) → (Nat → Int32) → (Nat → Int32) → (Nat → Int32) → (Nat → Int32) → (Nat → Int32) → (Nat → Int64) → (Nat → Int32) → (Nat → Int32) → (Nat → Int64) → Prop} {gc pc tm : Int32} {ce rc tk co ln ki : Nat → Int32} {nm : Nat → Int64} {nu pr : Nat → Int32} {fa : Nat → Int64} {t x3 : Int32} {h : Nat} {k : Nat → Bool} (hh : h < 20) (ha : mq_ar t ≤ h) (HK : mq_KX ki h k)
    (K0 : ¬ (∀ j, j < mq_ar t → k (h - 1 - j) = mq_wt t j) → post 0 (gc, pc, tm, ce, rc, tk, co, ln, ki, nm, nu, pr, fa))
    (K : (∀ j, j < mq_ar t → k (h - 1 - j) = mq_wt t j) → J (nI (19 - (h - mq_ar t))) (x3 + (-1)) ce rc tk co ln (upd ki (19 - (h - mq_ar t)) (mq_k2 (mq_tr t))) nm nu pr fa) :
    ∀ e q, q + e = mq_ar t → (∀ j, j < q → k (h - 1 - j) = mq_wt t j) → wX_kindOfPending_43 post J (nI (20 - h)) x3 t (nI (mq_ar t)) gc pc tm ce rc tk co ln ki nm nu pr fa (e + 1) (nI q) := by
  have h3 := mq_ar3 t
  intro e
  induction e with
  | zero =>
    intro q hq hall
    have hq : q = mq_ar t := by omega
    subst hq
    refine br_t (nI_le (Nat.le_refl _) (by omega)) (nm_r (e' := nI (19 - (h - mq_ar t))) ?_ ?_)
    · rw [nI_add, mn_s (by omega)]
      exact congrArg nI (by omega)
    · refine mx_rk ?_
      rw [nI_clamp (by omega)]
      exact ⟨vp_in_nI (by omega) (by decide), nm_e (nm_e (K hall))⟩
  | succ e ih =>
    intro q hq hall
    refine br_f (nI_ge (by omega) (by omega)) ?_
    refine mx_ok (by omega) ?_
    rw [nI_add, nI_clamp (by omega)]
    refine ⟨vp_in_nI (by omega) (by decide), ?_⟩
    have e1 : ki (20 - h + q) = mq_k2 (k (h - 1 - q)) := by
      rw [← HK (h - 1 - q) (by omega)]
      exact congrArg ki (by omega)
    rw [e1]
    by_cases c : k (h - 1 - q) = mq_wt t q
    · refine br_t (congrArg mq_k2 c) (nm_r (nI_1 q) (ih (q + 1) (by omega) ?_))
      intro j hj
      by_cases ej : j = q
      · subst ej; exact c
      · exact hall j (by omega)
    · exact br_f (fun z => c (mq_k2_inj z)) (K0 (fun z => c (z q (by omega))))
theorem mx_kp7 {post : Int32 → SX → Prop} {gc pc tm : Int32} {ce rc tk co ln : Nat → Int32} {nm : Nat → Int64} {nu pr : Nat → Int32} {fa : Nat → Int64} {V : Nat → Int32} {len : Nat} {b : Bool} (hl : len ≤ 20) (ht : ∀ i, i < len → tk (60 + i) = V i)
    (K1 : ∀ ki, mq_WK V len b → post (mq_k2 b) (gc, pc, tm, ce, rc, tk, co, ln, ki, nm, nu, pr, fa)) (K0 : ∀ ki x, ¬ x = mq_k2 b → ¬ mq_WK V len b → post x (gc, pc, tm, ce, rc, tk, co, ln, ki, nm, nu, pr, fa)) :
    ∀ r d, r + d = len → (∀ d', d' < d → mq_ok V len d') → ∀ ki, mq_KX ki (mq_h V len d) (mq_k V len d) → wX_kindOfPending_7 post gc pc tm (r + 1) (nI (20 - mq_h V len d)) (nI r + (-1)) ce rc tk co ln ki nm nu pr fa := by
  intro r
  induction r with
  | zero =>
    intro d hd hok ki HK
    have hd : d = len := by omega
    subst hd
    refine br_t (by rw [mn_0m]; decide) ?_
    have hle := mq_h_le V d d
    by_cases h1 : mq_h V d d = 1
    · refine br_t (by rw [h1]; rfl) ?_
      have e1 : ki 19 = mq_k2 (mq_k V d d 0) := HK 0 (by omega)
      rw [e1]
      by_cases eb : mq_k V d d 0 = b
      · rw [eb]
        exact K1 ki ⟨hok, h1, eb⟩
      · exact K0 ki _ (fun z => eb (mq_k2_inj z)) (fun z => eb z.2.2)
    · refine br_f ?_ (K0 ki _ (mq_k2_0 b) (fun z => h1 z.2.1))
      intro z
      have z2 : 20 - mq_h V d d = 19 := (nI_eq (b := 19) (by omega) (by decide)).mp z
      omega
  | succ r ih =>
    intro d hd hok ki HK
    have er : len - 1 - d = r := by omega
    have hle := mq_h_le V len d
    have ha3 := mq_ar3 (V r)
    rw [pk_m1]
    refine br_f (nI_pos (by omega)) ?_
    rw [mi_60, nI_clamp (by omega), ht r (by omega)]
    refine ⟨vp_in_nI (by omega) (by decide), nm_e ?_⟩
    refine mx_oc ?_
    rw [nI_add]
    have hokd : mq_ok V len d ↔ (mq_ar (V r) ≤ mq_h V len d ∧ ∀ k, k < mq_ar (V r) → mq_k V len d (mq_h V len d - 1 - k) = mq_wt (V r) k) := by
      unfold mq_ok
      rw [er]
    by_cases ha : mq_ar (V r) ≤ mq_h V len d
    · refine br_t (nI_le (b := 20) (by omega) (by decide)) ⟨mq_ar (V r) + 1, ?_⟩
      refine mx_kp43 (by omega) ha HK ?_ ?_ (mq_ar (V r)) 0 (by omega) (fun j hj => absurd hj (Nat.not_lt_zero j))
      · intro z
        exact K0 ki _ (mq_k2_0 b) (fun w => z ((hokd.mp (w.1 d (by omega))).2))
      · intro hall
        have hs : mq_h V len (d + 1) = mq_h V len d - mq_ar (V r) + 1 := by rw [mq_h_s, er]
        have hks : mq_k V len (d + 1) = fun j => if j = mq_h V len d - mq_ar (V r) then mq_tr (V r) else mq_k V len d j := by
          funext j
          show (if j = mq_h V len d - mq_ar (V (len - 1 - d)) then mq_tr (V (len - 1 - d)) else mq_k V len d j) = _
          rw [er]
        have h2 := ih (d + 1) (by omega) (fun d' hd' => by
          by_cases e1 : d' = d
          · rw [e1]; exact hokd.mpr ⟨ha, hall⟩
          · exact hok d' (by omega)) (upd ki (19 - (mq_h V len d - mq_ar (V r))) (mq_k2 (mq_tr (V r)))) (by rw [hs, hks]; exact mq_kx_p HK (by omega) (by omega) rfl)
        rw [hs] at h2
        have e3 : 20 - (mq_h V len d - mq_ar (V r) + 1) = 19 - (mq_h V len d - mq_ar (V r)) := by omega
        rw [e3] at h2
        exact h2
    · refine br_f (nI_ge (a := 20) (by omega) (by omega)) ?_
      exact K0 ki _ (mq_k2_0 b) (fun w => ha ((hokd.mp (w.1 d (by omega))).1))
/-! Y: right -/
theorem my_r50 {post : Int32 → SY → Prop} {J : Int32 → Int32 → (Nat → Int32) → (Nat → Int32) → (Nat → Int32) → (Nat → Int32) → (Nat → Int32) → (Nat → Int64) → (Nat → Int32) → (Nat → Int32) → (Nat → Int64) → (Nat → Int64) → Prop} {gr fu pp : Int32} {ce rc tk co ln : Nat → Int32} {nm : Nat → Int64} {nu gn : Nat → Int32} {gk gs : Nat → Int64} {t x1 x2 : Int32} {h : Nat} {k : Nat → Bool} (hh : h < 20) (ht : t ∈ mq_tk) (ha : mq_ar t ≤ h) (HK : mq_KY nm h k)
    (K0 : ¬ (∀ j, j < mq_ar t → k (h - 1 - j) = mq_wt t j) → post 0 (nI h, gr, fu, pp, ce, rc, tk, co, ln, nm, nu, gn, gk, gs))
    (K : (∀ j, j < mq_ar t → k (h - 1 - j) = mq_wt t j) → J (x2 + (-1)) (nI (h - mq_ar t + 1)) ce rc tk co ln (vp_updL nm (h - mq_ar t) (mq_k1 (mq_tr t))) nu gn gk gs) :
    ∀ e q, q + e = mq_ar t → (∀ j, j < q → k (h - 1 - j) = mq_wt t j) → wY_right_50 post J x1 x2 t (nI (mq_ar t)) (nI h) gr fu pp ce rc tk co ln nm nu gn gk gs (e + 1) (nI q) := by
  have h3 := mq_ar3 t
  intro e
  induction e with
  | zero =>
    intro q hq hall
    have hq : q = mq_ar t := by omega
    subst hq
    refine br_t (nI_le (Nat.le_refl _) (by omega)) (nm_r (e' := nI (h - mq_ar t)) (pk_sub ha) ?_)
    refine my_gt ?_
    have q2 : ∀ z0 : Int64, z0 = mq_k1 (mq_tr t) → wY_right_133 post J x1 x2 z0 (nI (h - mq_ar t)) (nI (h - mq_ar t)) gr fu pp ce rc tk co ln nm nu gn gk gs := by
      intro z0 e0
      refine ⟨vp_in_nI (by omega) (by decide), ?_⟩
      rw [nI_clamp (by omega), e0]
      exact nm_e (nm_r (nI_1 _) (nm_e (K hall)))
    cases hb : mq_tr t with
    | false =>
      rw [hb] at q2
      exact br_t rfl (q2 0 rfl)
    | true =>
      rw [hb] at q2
      exact br_f (by decide) (q2 1 rfl)
  | succ e ih =>
    intro q hq hall
    refine br_f (nI_ge (by omega) (by omega)) ?_
    rw [mn_s (by omega), pk_sub (by omega), nI_clamp (by omega)]
    refine ⟨vp_in_nI (by omega) (by decide), ?_⟩
    rw [HK (h - 1 - q) (by omega)]
    have q2 : wY_right_81 post J (wY_right_50 post J x1 x2 t (nI (mq_ar t)) (nI h) gr fu pp ce rc tk co ln nm nu gn gk gs (e + 1)) x1 x2 t (nI (mq_ar t)) (nI q) (mq_b1 (k (h - 1 - q))) (nI h) gr fu pp ce rc tk co ln nm nu gn gk gs := by
      refine my_wt ht (by omega) ?_
      by_cases c : k (h - 1 - q) = mq_wt t q
      · refine br_t (congrArg mq_b1 c) (nm_r (nI_1 q) (ih (q + 1) (by omega) ?_))
        intro j hj
        by_cases ej : j = q
        · subst ej; exact c
        · exact hall j (by omega)
      · exact br_f (fun z => c (mq_b1_inj z)) (K0 (fun z => c (z q (by omega))))
    cases hb : k (h - 1 - q) with
    | false =>
      rw [hb] at q2
      exact br_f (by decide) q2
    | true =>
      rw [hb] at q2
      exact br_t rfl q2
theorem my_r17 {post : Int32 → SY → Prop} {gr fu pp : Int32} {ce rc tk co ln : Nat → Int32} {nu gn : Nat → Int32} {gk gs : Nat → Int64} {V : Nat → Int32} {len : Nat} {b : Bool} (hl : len ≤ 20) (ht : ∀ i, i < len → tk (60 + i) = V i) (hV : ∀ i, i < len → V i ∈ mq_tk)
    (K1 : ∀ tp nm, mq_WK V len b → post 1 (tp, gr, fu, pp, ce, rc, tk, co, ln, nm, nu, gn, gk, gs)) (K0 : ∀ tp nm, ¬ mq_WK V len b → post 0 (tp, gr, fu, pp, ce, rc, tk, co, ln, nm, nu, gn, gk, gs)) :
    ∀ r d, r + d = len → (∀ d', d' < d → mq_ok V len d') → ∀ nm, mq_KY nm (mq_h V len d) (mq_k V len d) → wY_right_17 post (mq_b1 b) gr fu pp (r + 1) (nI (60 + r) + (-1)) (nI (mq_h V len d)) ce rc tk co ln nm nu gn gk gs := by
  intro r
  induction r with
  | zero =>
    intro d hd hok nm HK
    have hd : d = len := by omega
    subst hd
    refine br_t (by decide) ?_
    have hle := mq_h_le V d d
    by_cases h1 : mq_h V d d = 1
    · rw [h1]
      refine br_t rfl ?_
      have e1 : nm 0 = mq_k1 (mq_k V d d 0) := HK 0 (by omega)
      rw [e1]
      have q2 : wY_right_174 post (mq_b1 b) (mq_b1 (mq_k V d d 0)) 1 gr fu pp ce rc tk co ln nm nu gn gk gs := by
        by_cases eb : mq_k V d d 0 = b
        · exact br_t (congrArg mq_b1 eb) (K1 _ nm ⟨hok, h1, eb⟩)
        · exact br_f (fun z => eb (mq_b1_inj z)) (K0 _ nm (fun z => eb z.2.2))
      cases hb : mq_k V d d 0 with
      | false =>
        rw [hb] at q2
        exact br_f (by decide) q2
      | true =>
        rw [hb] at q2
        exact br_t rfl q2
    · refine br_f ?_ (K0 _ nm (fun z => h1 z.2.1))
      intro z
      exact h1 ((nI_eq (b := 1) (by omega) (by decide)).mp z)
  | succ r ih =>
    intro d hd hok nm HK
    have er : len - 1 - d = r := by omega
    have hle := mq_h_le V len d
    have ha3 := mq_ar3 (V r)
    rw [← Nat.add_assoc, pk_m1]
    refine br_f (nI_nlt (b := 60) (by omega) (by omega)) ?_
    rw [nI_clamp (by omega), ht r (by omega)]
    refine ⟨vp_in_nI (by omega) (by decide), nm_e ?_⟩
    refine my_oc (hV r (by omega)) ?_
    have hokd : mq_ok V len d ↔ (mq_ar (V r) ≤ mq_h V len d ∧ ∀ k, k < mq_ar (V r) → mq_k V len d (mq_h V len d - 1 - k) = mq_wt (V r) k) := by
      unfold mq_ok
      rw [er]
    by_cases ha : mq_ar (V r) ≤ mq_h V len d
    · refine br_t (nI_le ha (by omega)) ⟨mq_ar (V r) + 1, ?_⟩
      refine my_r50 (by omega) (hV r (by omega)) ha HK ?_ ?_ (mq_ar (V r)) 0 (by omega) (fun j hj => absurd hj (Nat.not_lt_zero j))
      · intro z
        exact K0 _ nm (fun w => z ((hokd.mp (w.1 d (by omega))).2))
      · intro hall
        have hs : mq_h V len (d + 1) = mq_h V len d - mq_ar (V r) + 1 := by rw [mq_h_s, er]
        have hks : mq_k V len (d + 1) = fun j => if j = mq_h V len d - mq_ar (V r) then mq_tr (V r) else mq_k V len d j := by
          funext j
          show (if j = mq_h V len d - mq_ar (V (len - 1 - d)) then mq_tr (V (len - 1 - d)) else mq_k V len d j) = _
          rw [er]
        have h2 := ih (d + 1) (by omega) (fun d' hd' => by
          by_cases e1 : d' = d
          · rw [e1]; exact hokd.mpr ⟨ha, hall⟩
          · exact hok d' (by omega)) (vp_updL nm (mq_h V len d - mq_ar (V r)) (mq_k1 (mq_tr (V r)))) (by rw [hs, hks]; exact mq_ky_p HK (by omega) rfl)
        rw [hs] at h2
        exact h2
    · refine br_f (nI_ge (by omega) (by omega)) ?_
      exact K0 _ nm (fun w => ha ((hokd.mp (w.1 d (by omega))).1))
end MQ9
end
section
section MQ10
variable {n : Nat → Nat} {D : Nat → Nat → Int32} {m : Nat → Nat} {T C : Nat → Nat → Int32} {s : MqG}
/-! use: the copy -/
def mq_cp (f : Nat → Int32) (w L : Nat) : Nat → Int32 := fun j => if 20 * w ≤ j ∧ j < 20 * w + L then f (60 + (j - 20 * w)) else f j
theorem mq_cp_0 (f : Nat → Int32) (w : Nat) : mq_cp f w 0 = f := by
  funext j
  exact if_neg (by omega)
theorem mq_cp_s {f : Nat → Int32} {w k : Nat} (hw : w < 3) (hk : k < 20) : upd (mq_cp f w k) (20 * w + k) (mq_cp f w k (60 + k)) = mq_cp f w (k + 1) := by
  funext j
  unfold mq_cp upd
  by_cases e : j = 20 * w + k
  · rw [if_pos e, if_neg (by omega), if_pos (by omega), e]
    exact congrArg f (by omega)
  · rw [if_neg e]
    dsimp only
    by_cases e2 : 20 * w ≤ j ∧ j < 20 * w + k
    · rw [if_pos e2, if_pos (by omega)]
    · rw [if_neg e2, if_neg (by omega)]
theorem mq_ex_us {tk co ln ln' : Nat → Int32} {w L : Nat} (h : mq_EX m T C tk co ln) (hw : w < 3) (hL : m 3 ≤ L) (hL2 : L ≤ 20) (hl : ∀ e, e < 4 → ln' e = nI (mq_nS (mq_nS m w (m 3)) 3 0 e)) :
    mq_EX (mq_nS (mq_nS m w (m 3)) 3 0) (mq_fE T w (T 3)) (mq_fE C w (C 3)) (mq_cp tk w L) (mq_cp co w L) ln' := by
  have h3 := (h.1 3 (by decide)).1
  refine ⟨fun e he => ⟨?_, hl e he⟩, fun e he i hi => ?_⟩
  · unfold mq_nS
    have he1 := (h.1 e he).1
    split
    · omega
    · split
      · exact h3
      · exact he1
  · unfold mq_nS at hi
    by_cases e3 : e = 3
    · rw [if_pos e3] at hi
      omega
    · rw [if_neg e3] at hi
      unfold mq_fE
      by_cases ew : e = w
      · rw [if_pos ew] at hi
        subst ew
        rw [if_pos rfl, if_pos rfl]
        have h2 := h.2 3 (by decide) i hi
        unfold mq_cp
        rw [if_pos (by omega), if_pos (by omega)]
        have e1 : 60 + (20 * e + i - 20 * e) = 20 * 3 + i := by omega
        rw [e1]
        exact h2
      · rw [if_neg ew] at hi
        rw [if_neg ew, if_neg ew]
        have h20 := (h.1 e he).1
        have h2 := h.2 e he i hi
        unfold mq_cp
        rw [if_neg (by omega), if_neg (by omega)]
        exact h2
theorem mx_us54 {post : Int32 → SX → Prop} {gc pc tm : Int32} {ce rc tk co ln ki : Nat → Int32} {nm : Nat → Int64} {nu pr : Nat → Int32} {fa : Nat → Int64} {w L : Nat} (hw : w < 3) (hL : L ≤ 20) (K : post 1 (gc, pc, tm, ce, rc, mq_cp tk w L, mq_cp co w L, upd ln w (nI L), ki, nm, nu, pr, fa)) :
    ∀ d q, q + d = L → wX_use_54 post (nI w) (nI L) gc pc tm (d + 1) (nI q) ce rc (mq_cp tk w q) (mq_cp co w q) ln ki nm nu pr fa := by
  intro d
  induction d with
  | zero =>
    intro q e
    have e : q = L := by omega
    subst e
    refine br_t (nI_le (Nat.le_refl _) (by omega)) ⟨vp_in_nI (by omega) (by decide), ?_⟩
    rw [nI_clamp (by omega)]
    exact nm_e K
  | succ d ih =>
    intro q e
    refine br_f (nI_ge (by omega) (by omega)) ?_
    rw [mi_60, mi_20, nI_clamp (by omega), nI_clamp (by omega), Nat.mul_comm w 20, mq_cp_s hw (by omega), mq_cp_s hw (by omega)]
    exact ⟨vp_in_nI (by omega) (by decide), vp_in_nI (by omega) (by decide), nm_e ⟨vp_in_nI (by omega) (by decide), vp_in_nI (by omega) (by decide), nm_e (nm_r (nI_1 q) (ih (q + 1) (by omega)))⟩⟩
theorem my_us37 {post : Int32 → SY → Prop} {tp gr fu pp : Int32} {ce rc tk co ln : Nat → Int32} {nm : Nat → Int64} {nu gn : Nat → Int32} {gk gs : Nat → Int64} {w : Nat} (hw : w < 3) (K : post 1 (tp, gr, fu, pp, ce, rc, mq_cp tk w 20, mq_cp co w 20, upd (upd ln w (ln 3)) 3 0, nm, nu, gn, gk, gs)) :
    ∀ d q, q + d = 20 → wY_use_37 post (nI w) 1 tp gr fu pp (d + 1) (nI q) ce rc (mq_cp tk w q) (mq_cp co w q) ln nm nu gn gk gs := by
  intro d
  induction d with
  | zero =>
    intro q e
    have e : q = 20 := by omega
    subst e
    refine br_t (nI_le (a := 20) (Nat.le_refl _) (by omega)) ⟨vp_in_nI (by omega) (by decide), ?_⟩
    rw [nI_clamp (by omega)]
    exact nm_e (nm_e ⟨by decide, K⟩)
  | succ d ih =>
    intro q e
    refine br_f (nI_ge (b := 20) (by omega) (by omega)) ?_
    rw [mi_60, mi_20', nI_add, nI_clamp (by omega), nI_clamp (by omega), mq_cp_s hw (by omega), mq_cp_s hw (by omega)]
    exact ⟨vp_in_nI (by omega) (by decide), vp_in_nI (by omega) (by decide), nm_e ⟨vp_in_nI (by omega) (by decide), vp_in_nI (by omega) (by decide), nm_e (nm_r (nI_1 q) (ih (q + 1) (by omega)))⟩⟩
theorem mx_us30 {post : Int32 → SX → Prop} {gc pc tm : Int32} {ce rc tk co ln ki : Nat → Int32} {nm : Nat → Int64} {nu pr : Nat → Int32} {fa : Nat → Int64} (h1 : mq_TX n D ce rc) (h2 : mq_EX m T C tk co ln) (h3 : mq_FX s fa ∧ gc = nI s.1 ∧ pc = s.2.2.2.2 ∧ tm = mq_bi s.2.2.2.1) {w : Nat} (hw : w < 3)
    (K1 : mq_WK (T 3) (m 3) (decide (w = 0)) → ∀ u', mq_XR n D (mq_nS (mq_nS m w (m 3)) 3 0) (mq_fE T w (T 3)) (mq_fE C w (C 3)) s u' → post 1 u')
    (K0 : ¬ mq_WK (T 3) (m 3) (decide (w = 0)) → ∀ u', mq_XR n D (mq_nS m 3 0) T C s u' → post 0 u') : wX_use_30 post (nI w) (nI (m 3)) gc pc tm ce rc tk co (upd ln 3 0) ki nm nu pr fa := by
  have hl := (h2.1 3 (by decide)).1
  unfold wX_use_30 wpX_kindOfPending
  dsimp only
  rw [mn_ns]
  have q46 : ∀ (ki : Nat → Int32) (x : Int32), (x = mq_k2 (decide (w = 0)) → mq_WK (T 3) (m 3) (decide (w = 0))) → (¬ x = mq_k2 (decide (w = 0)) → ¬ mq_WK (T 3) (m 3) (decide (w = 0))) →
      wX_use_46 post (nI w) (nI (m 3)) (mq_k2 (decide (w = 0))) x gc pc tm ce rc tk co (upd ln 3 0) ki nm nu pr fa := by
    intro ki x ha hb
    by_cases c : x = mq_k2 (decide (w = 0))
    · refine br_t c ⟨m 3 + 1, ?_⟩
      have h := mx_us54 (post := post) (gc := gc) (pc := pc) (tm := tm) (ce := ce) (rc := rc) (tk := tk) (co := co) (ln := upd ln 3 0) (ki := ki) (nm := nm) (nu := nu) (pr := pr) (fa := fa) (L := m 3) hw hl (K1 (ha c) _ ⟨h1, mq_ex_us h2 hw (Nat.le_refl _) hl (by
        intro e he
        unfold upd mq_nS
        have hle := (h2.1 e he).2
        by_cases ew : e = w
        · rw [if_pos ew, if_neg (by omega), if_pos ew]
        · rw [if_neg ew]
          by_cases e3 : e = 3
          · rw [if_pos e3, if_pos e3]; rfl
          · rw [if_neg e3, if_neg e3, if_neg ew]; exact hle), h3⟩) (m 3) 0 (by omega)
      rw [mq_cp_0, mq_cp_0] at h
      exact h
    · exact br_f c (K0 (hb c) _ ⟨h1, mq_ex_ln h2 (Nat.zero_le _) (by decide), h3⟩)
  have qk : ∀ (ki : Nat → Int32) (x : Int32), (x = mq_k2 (decide (w = 0)) → mq_WK (T 3) (m 3) (decide (w = 0))) → (¬ x = mq_k2 (decide (w = 0)) → ¬ mq_WK (T 3) (m 3) (decide (w = 0))) →
      ((nI w = 0 → wX_use_46 post (nI w) (nI (m 3)) 2 x gc pc tm ce rc tk co (upd ln 3 0) ki nm nu pr fa) ∧ (¬ nI w = 0 → wX_use_46 post (nI w) (nI (m 3)) 1 x gc pc tm ce rc tk co (upd ln 3 0) ki nm nu pr fa)) := by
    intro ki x ha hb
    have h := q46 ki x ha hb
    by_cases w0 : w = 0
    · subst w0
      exact br_t rfl h
    · rw [decide_eq_false w0] at h
      exact br_f (nI_ne0 (by omega) (by omega)) h
  refine nm_e ⟨m 3 + 1, ?_⟩
  exact mx_kp7 (V := T 3) (len := m 3) (b := decide (w = 0)) hl (fun i hi => (h2.2 3 (by decide) i hi).1) (fun ki hk => qk ki _ (fun _ => hk) (fun z => absurd rfl z)) (fun ki x hx hk => qk ki x (fun z => absurd z hx) (fun _ => hk)) (m 3) 0 rfl (fun d hd => absurd hd (Nat.not_lt_zero d)) ki (fun j hj => absurd hj (Nat.not_lt_zero j))
theorem mx_use {post : Int32 → SX → Prop} {u : SX} (H : mq_XR n D m T C s u) {w : Nat} (hw : w < 3)
    (K1 : mq_WK (T 3) (m 3) (decide (w = 0)) → ∀ u', mq_XR n D (mq_nS (mq_nS m w (m 3)) 3 0) (mq_fE T w (T 3)) (mq_fE C w (C 3)) s u' → post 1 u')
    (K0 : ¬ mq_WK (T 3) (m 3) (decide (w = 0)) → ∀ u', mq_XR n D (mq_nS m 3 0) T C s u' → post 0 u') : wpX_use post u (nI w) := by
  obtain ⟨gc, pc, tm, ce, rc, tk, co, ln, ki, nm, nu, pr, fa⟩ := u
  obtain ⟨h1, h2, h3⟩ := H
  have h := mx_us30 (ki := ki) (nm := nm) (nu := nu) (pr := pr) h1 h2 h3 hw K1 K0
  refine nm_r (h2.1 3 (by decide)).2 (nm_e ?_)
  by_cases w0 : w = 0
  · subst w0
    exact br_t rfl h
  · refine br_f (nI_ne0 (by omega) (by omega)) ?_
    by_cases w1 : w = 1
    · subst w1
      exact br_t rfl h
    · refine br_f (fun e => w1 ((nI_eq (b := 1) (by omega) (by decide)).mp e)) ?_
      have w2 : w = 2 := by omega
      subst w2
      exact br_t rfl h
theorem mx_usen {post : Int32 → SX → Prop} {u : SX} (H : mq_XR n D m T C s u) {x : Int32} (hx : x < 0 ∨ nI 3 ≤ x) (K0 : ∀ u', mq_XR n D (mq_nS m 3 0) T C s u' → post 0 u') : wpX_use post u x := by
  have hn : ∀ w, w < 3 → ¬ x = nI w := by
    intro w hw e
    subst e
    rcases hx with h | h
    · exact nI_pos (by omega) h
    · exact nI_ge hw (by decide) h
  obtain ⟨gc, pc, tm, ce, rc, tk, co, ln, ki, nm, nu, pr, fa⟩ := u
  exact nm_e (nm_e (br_f (hn 0 (by decide)) (br_f (hn 1 (by decide)) (br_f (hn 2 (by decide)) (K0 _ ⟨H.1, mq_ex_ln H.2.1 (Nat.zero_le _) (by decide), H.2.2⟩)))))
theorem my_us29 {post : Int32 → SY → Prop} {tp gr fu pp : Int32} {ce rc tk co ln : Nat → Int32} {nm : Nat → Int64} {nu gn : Nat → Int32} {gk gs : Nat → Int64} (H : mq_YR n D m T C s (tp, gr, fu, pp, ce, rc, tk, co, ln, nm, nu, gn, gk, gs)) {x : Int32} (K0 : ∀ u', mq_YR n D (mq_nS m 3 0) T C s u' → post 0 u') : wY_use_29 post x tp gr fu pp ce rc tk co ln nm nu gn gk gs :=
  br_t rfl (nm_e ⟨by decide, K0 _ ⟨H.1, mq_ex_ln H.2.1 (Nat.zero_le _) (by decide), H.2.2⟩⟩)
theorem my_us19 {post : Int32 → SY → Prop} {tp gr fu pp : Int32} {ce rc tk co ln : Nat → Int32} {nm : Nat → Int64} {nu gn : Nat → Int32} {gk gs : Nat → Int64} (hE : mq_EI m T) (H : mq_YR n D m T C s (tp, gr, fu, pp, ce, rc, tk, co, ln, nm, nu, gn, gk, gs)) {w : Nat} (hw : w < 3)
    (K1 : mq_WK (T 3) (m 3) (decide (w = 0)) → ∀ u', mq_YR n D (mq_nS (mq_nS m w (m 3)) 3 0) (mq_fE T w (T 3)) (mq_fE C w (C 3)) s u' → post 1 u')
    (K0 : ¬ mq_WK (T 3) (m 3) (decide (w = 0)) → ∀ u', mq_YR n D (mq_nS m 3 0) T C s u' → post 0 u') : wY_use_19 post (nI w) (mq_b1 (decide (w = 0))) tp gr fu pp ce rc tk co ln nm nu gn gk gs := by
  obtain ⟨h1, h2, h3⟩ := H
  have hl := (h2.1 3 (by decide)).1
  have hl2 := (h2.1 3 (by decide)).2
  unfold wY_use_19 wpY_right
  dsimp only
  rw [hl2, mi_60, mn_ns]
  refine nm_e ⟨m 3 + 1, ?_⟩
  refine my_r17 (V := T 3) (len := m 3) (b := decide (w = 0)) hl (fun i hi => (h2.2 3 (by decide) i hi).1) (hE.1 3 (by decide)) ?_ ?_ (m 3) 0 rfl (fun d hd => absurd hd (Nat.not_lt_zero d)) nm (fun j hj => absurd hj (Nat.not_lt_zero j))
  · intro tp nm hk
    refine br_f (by decide) (br_f (by decide) ⟨21, ?_⟩)
    have h := my_us37 (post := post) (tp := tp) (gr := gr) (fu := fu) (pp := pp) (ce := ce) (rc := rc) (tk := tk) (co := co) (ln := ln) (nm := nm) (nu := nu) (gn := gn) (gk := gk) (gs := gs) hw (K1 hk _ ⟨h1, mq_ex_us h2 hw hl (Nat.le_refl _) (by
        intro e he
        unfold upd mq_nS
        have hle := (h2.1 e he).2
        by_cases e3 : e = 3
        · rw [if_pos e3, if_pos e3]; rfl
        · rw [if_neg e3, if_neg e3]
          by_cases ew : e = w
          · rw [if_pos ew, if_pos ew]; exact hl2
          · rw [if_neg ew, if_neg ew]; exact hle), h3⟩) 20 0 rfl
    rw [mq_cp_0, mq_cp_0] at h
    exact h
  · intro tp nm hk
    exact br_t rfl (my_us29 (n := n) (D := D) (m := m) (T := T) (C := C) (s := s) ⟨h1, h2, h3⟩ (K0 hk))
theorem my_use {post : Int32 → SY → Prop} {u : SY} (hE : mq_EI m T) (H : mq_YR n D m T C s u) {w : Nat} (hw : w < 3)
    (K1 : mq_WK (T 3) (m 3) (decide (w = 0)) → ∀ u', mq_YR n D (mq_nS (mq_nS m w (m 3)) 3 0) (mq_fE T w (T 3)) (mq_fE C w (C 3)) s u' → post 1 u')
    (K0 : ¬ mq_WK (T 3) (m 3) (decide (w = 0)) → ∀ u', mq_YR n D (mq_nS m 3 0) T C s u' → post 0 u') : wpY_use post u (nI w) := by
  obtain ⟨tp, gr, fu, pp, ce, rc, tk, co, ln, nm, nu, gn, gk, gs⟩ := u
  have h := my_us19 hE H hw K1 K0
  refine br_f (nI_pos (by omega)) (br_f (nI_nlt (a := 2) (by omega) (by decide)) ?_)
  by_cases w0 : w = 0
  · subst w0
    exact br_t rfl h
  · rw [decide_eq_false w0] at h
    exact br_f (nI_ne0 (by omega) (by omega)) h
theorem my_usen {post : Int32 → SY → Prop} {u : SY} (H : mq_YR n D m T C s u) {x : Int32} (hx : x < 0 ∨ nI 3 ≤ x) (K0 : ∀ u', mq_YR n D (mq_nS m 3 0) T C s u' → post 0 u') : wpY_use post u x := by
  obtain ⟨tp, gr, fu, pp, ce, rc, tk, co, ln, nm, nu, gn, gk, gs⟩ := u
  have h := my_us29 H (x := x) K0
  by_cases h0 : x < 0
  · exact br_t h0 h
  · obtain ⟨j, hj, rfl⟩ := nI_of h0
    have h2 : 3 ≤ j := (nI_leI (by decide) hj).mp (hx.resolve_left h0)
    exact br_f h0 (br_t (nI_lt (a := 2) (by omega) hj) h)
theorem i_vc_use {k : Nat} {u : SX} {v : SY} (I : i_Rel k u v) (hk : k + 5 ≤ 2560) (v1 : Int32) : wpX_use (fun r u' => wpY_use (fun r' v' => r' = r ∧ i_Rel (k + 5) u' v') v v1) u v1 := by
  obtain ⟨n, D, m, T, C, s, hI, hX, hY⟩ := I
  rcases pk_ix v1 (n := 3) (by decide) with h | h | ⟨w, hw, rfl⟩
  · exact mx_usen hX (Or.inl h) (fun u' hX' => my_usen hY (Or.inl h) (fun v' hY' => ⟨rfl, _, _, _, _, _, _, ⟨mq_ei_0 hI.1, hI.2⟩, hX', hY'⟩))
  · exact mx_usen hX (Or.inr h) (fun u' hX' => my_usen hY (Or.inr h) (fun v' hY' => ⟨rfl, _, _, _, _, _, _, ⟨mq_ei_0 hI.1, hI.2⟩, hX', hY'⟩))
  · exact mx_use hX hw (fun hk u' hX' => my_use hI.1 hY hw (fun _ v' hY' => ⟨rfl, _, _, _, _, _, _, ⟨mq_ei_us hI.1 hw hk, hI.2⟩, hX', hY'⟩) (fun z => absurd hk z)) (fun hk u' hX' => my_use hI.1 hY hw (fun z => absurd z hk) (fun _ v' hY' => ⟨rfl, _, _, _, _, _, _, ⟨mq_ei_0 hI.1, hI.2⟩, hX', hY'⟩))
/-! the start, group, passed -/
theorem i_vc_passed {k : Nat} {u : SX} {v : SY} (I : i_Rel k u v) (hk : k + 5 ≤ 2560) : wpX_passed (fun r => wpY_passed (fun r' => r' = r ∧ i_Rel (k + 5) u v) v) u := by
  have I2 := I
  obtain ⟨n, D, m, T, C, s, hI, hX, hY⟩ := I
  obtain ⟨gc, pc, tm, ce, rc, tk, co, ln, ki, nm, nu, pr, fa⟩ := u
  obtain ⟨tp, gr, fu, pp, ce', rc', tk', co', ln', nm', nu', gn, gk, gs⟩ := v
  refine ⟨?_, I2⟩
  rw [hX.2.2.2.2.1, hY.2.2.2.2.1]
theorem mx_gr {post : Int64 → Prop} {u : SX} (H : mq_XR n D m T C s u) (hs : mq_gi s) (hf : s.2.2.2.1 = true → s.1 = 0) {g w : Nat} (hg : g < s.1) (hw : w < 7) (h : post (if w = 0 then mq_kn (s.2.1 g) else if w = 1 then mq_kv (s.2.1 g) else s.2.2.1 g (w - 2))) : wpX_group post u (nI g) (nI w) := by
  obtain ⟨gc, pc, tm, ce, rc, tk, co, ln, ki, nm, nu, pr, fa⟩ := u
  have h12 := hs.1
  refine br_f (nI_pos (by omega)) ?_
  rw [H.2.2.2.1]
  refine br_f (nI_ge hg (by omega)) (br_f (nI_pos (by omega)) (br_t (nI_lt (b := 7) hw (by decide)) ?_))
  rw [mi_7, nI_add, nI_clamp (by omega)]
  refine ⟨vp_in_nI (by omega) (by decide), ?_⟩
  have h1 := H.2.2.1 g hg
  have hb : s.2.2.2.1 = false := by
    cases hb : s.2.2.2.1 with
    | false => rfl
    | true => have := hf hb; omega
  by_cases w0 : w = 0
  · subst w0
    rw [if_pos rfl] at h
    rw [Nat.add_zero, Nat.mul_comm, h1.1]
    exact h
  · rw [if_neg w0] at h
    by_cases w1 : w = 1
    · subst w1
      rw [if_pos rfl] at h
      rw [Nat.mul_comm, h1.2.1]
      exact h
    · rw [if_neg w1] at h
      have h2 := h1.2.2 hb (w - 2) (by omega)
      have e1 : 7 * g + 2 + (w - 2) = g * 7 + w := by omega
      rw [e1] at h2
      rw [h2]
      exact h
theorem my_gr {post : Int64 → Prop} {u : SY} (H : mq_YR n D m T C s u) (hs : mq_gi s) (hf : s.2.2.2.1 = true → s.1 = 0) {g w : Nat} (hg : g < s.1) (hw : w < 7) (h : post (if w = 0 then mq_kn (s.2.1 g) else if w = 1 then mq_kv (s.2.1 g) else s.2.2.1 g (w - 2))) : wpY_group post u (nI g) (nI w) := by
  obtain ⟨tp, gr, fu, pp, ce, rc, tk, co, ln, nm, nu, gn, gk, gs⟩ := u
  have h12 := hs.1
  refine br_f (nI_pos (by omega)) ?_
  rw [H.2.2.2.1]
  refine br_t (nI_lt hg (by omega)) ?_
  have h1 := H.2.2.1 g hg
  have hb : s.2.2.2.1 = false := by
    cases hb : s.2.2.2.1 with
    | false => rfl
    | true => have := hf hb; omega
  by_cases w0 : w = 0
  · subst w0
    rw [if_pos rfl] at h
    refine br_t rfl ⟨vp_in_nI (by omega) (by decide), ?_⟩
    rw [nI_clamp (by omega), h1.1]
    cases hk : s.2.1 g with
    | none => rw [hk] at h; exact br_f (by decide) h
    | some x => rw [hk] at h; exact br_t rfl h
  · rw [if_neg w0] at h
    refine br_f (nI_ne0 (by omega) (by omega)) ?_
    by_cases w1 : w = 1
    · subst w1
      rw [if_pos rfl] at h
      refine br_t rfl ⟨vp_in_nI (by omega) (by decide), ?_⟩
      rw [nI_clamp (by omega), h1.2.1]
      exact h
    · rw [if_neg w1] at h
      refine br_f (fun e => w1 ((nI_eq (b := 1) (by omega) (by decide)).mp e)) (br_f (nI_nlt (b := 2) (by omega) (by omega)) (br_f (nI_nlt (a := 6) (by omega) (by decide)) ?_))
      have e0 : 5 * nI g + nI w - 2 = nI (5 * g + (w - 2)) := by
        rw [mi_5, show (2 : Int32) = nI 2 from rfl, pk_sub (by omega)]
        exact congrArg nI (by omega)
      rw [e0, nI_clamp (by omega), h1.2.2 hb (w - 2) (by omega)]
      exact ⟨vp_in_nI (by omega) (by decide), h⟩
theorem mx_grn {post : Int64 → Prop} {u : SX} (H : mq_XR n D m T C s u) (hs : mq_gi s) {x y : Int32} (hx : x < 0 ∨ nI s.1 ≤ x ∨ y < 0 ∨ nI 7 ≤ y) (h : post 0) : wpX_group post u x y := by
  obtain ⟨gc, pc, tm, ce, rc, tk, co, ln, ki, nm, nu, pr, fa⟩ := u
  have h12 := hs.1
  by_cases c1 : x < 0
  · exact br_t c1 h
  · refine br_f c1 ?_
    rw [H.2.2.2.1]
    by_cases c2 : nI s.1 ≤ x
    · exact br_t c2 h
    · refine br_f c2 ?_
      by_cases c3 : y < 0
      · exact br_t c3 h
      · exact br_f c3 (br_f (Int32.not_lt.mpr (((hx.resolve_left c1).resolve_left c2).resolve_left c3)) h)
theorem my_grn {post : Int64 → Prop} {u : SY} (H : mq_YR n D m T C s u) (hs : mq_gi s) {x y : Int32} (hx : x < 0 ∨ nI s.1 ≤ x ∨ y < 0 ∨ nI 7 ≤ y) (h : post 0) : wpY_group post u x y := by
  obtain ⟨tp, gr, fu, pp, ce, rc, tk, co, ln, nm, nu, gn, gk, gs⟩ := u
  have h12 := hs.1
  by_cases c1 : x < 0
  · exact br_t c1 h
  · refine br_f c1 ?_
    rw [H.2.2.2.1]
    by_cases c2 : nI s.1 ≤ x
    · exact br_f (Int32.not_lt.mpr c2) h
    · refine br_t (Int32.not_le.mp c2) ?_
      have c3 := (hx.resolve_left c1).resolve_left c2
      have hn : ∀ w, w < 7 → ¬ y = nI w := by
        intro w hw e
        subst e
        rcases c3 with z | z
        · exact nI_pos (by omega) z
        · exact nI_ge hw (by decide) z
      refine br_f (hn 0 (by decide)) (br_f (hn 1 (by decide)) ?_)
      by_cases c4 : y < 0
      · have l2 : y < 2 := by
          rw [Int32.lt_iff_toInt_lt] at c4 ⊢
          have q0 : (0 : Int32).toInt = 0 := by decide
          have q2 : (2 : Int32).toInt = 2 := by decide
          omega
        exact br_t l2 h
      · obtain ⟨j, hj, rfl⟩ := nI_of c4
        have h7 : 7 ≤ j := (nI_leI (by decide) hj).mp (c3.resolve_left c4)
        exact br_f (nI_nlt (b := 2) (by omega) hj) (br_t (nI_lt (a := 6) (by omega) hj) h)
theorem i_vc_group {k : Nat} {u : SX} {v : SY} (I : i_Rel k u v) (hk : k + 5 ≤ 2560) (v1 : Int32) (v2 : Int32) : wpX_group (fun r => wpY_group (fun r' => r' = r ∧ i_Rel (k + 5) u v) v v1 v2) u v1 v2 := by
  have I2 := I
  obtain ⟨n, D, m, T, C, s, hI, hX, hY⟩ := I
  have h12 := hI.2.1.1
  rcases pk_ix v1 (n := s.1) (by omega) with h | h | ⟨g, hg, rfl⟩
  · exact mx_grn hX hI.2.1 (Or.inl h) (my_grn hY hI.2.1 (Or.inl h) ⟨rfl, I2⟩)
  · exact mx_grn hX hI.2.1 (Or.inr (Or.inl h)) (my_grn hY hI.2.1 (Or.inr (Or.inl h)) ⟨rfl, I2⟩)
  · rcases pk_ix v2 (n := 7) (by decide) with h | h | ⟨w, hw, rfl⟩
    · exact mx_grn hX hI.2.1 (Or.inr (Or.inr (Or.inl h))) (my_grn hY hI.2.1 (Or.inr (Or.inr (Or.inl h))) ⟨rfl, I2⟩)
    · exact mx_grn hX hI.2.1 (Or.inr (Or.inr (Or.inr h))) (my_grn hY hI.2.1 (Or.inr (Or.inr (Or.inr h))) ⟨rfl, I2⟩)
    · exact mx_gr hX hI.2.1 hI.2.2 hg hw (my_gr hY hI.2.1 hI.2.2 hg hw ⟨rfl, I2⟩)
def mq_m0 : Nat → Nat := fun e => if e = 0 then 3 else if e = 3 then 0 else 1
def mq_T0 : Nat → Nat → Int32 := fun e i => if e = 0 ∧ i = 0 then 20 else 40
theorem mq_ei0 : mq_EI mq_m0 mq_T0 := by
  unfold mq_EI mq_WK mq_ok
  refine ⟨by decide +kernel, by decide +kernel, by decide +kernel, by decide +kernel⟩
theorem mq_ex0 : mq_EX mq_m0 mq_T0 (fun _ _ => 0) (upd (upd (upd (upd (upd (fun _ => 0) 0 20) 1 40) 2 40) 20 40) 40 40) (fun _ => 0) (upd (upd (upd (fun _ => 0) 0 3) 1 1) 2 1) := by
  unfold mq_EX
  refine ⟨by decide +kernel, by decide +kernel⟩
theorem i_vc0 : wpX_init (fun u => wpY_init (fun v => i_Rel 0 u v)) := by
  refine nm_e (nm_e (nm_e (nm_e (nm_e (nm_e (nm_e (nm_e ?_)))))))
  refine nm_e (nm_e (nm_e (nm_e (nm_e (nm_e (nm_e (nm_e ?_)))))))
  refine ⟨fun _ => 0, fun _ _ => 0, mq_m0, mq_T0, fun _ _ => 0, (0, fun _ => none, fun _ _ => 0, false, 0), ⟨mq_ei0, ⟨Nat.zero_le 12, fun i j _ h => absurd h (Nat.not_lt_zero j)⟩, fun _ => rfl⟩, ?_, ?_⟩
  · exact ⟨⟨fun t ht => ⟨Nat.zero_le 16, rfl⟩, fun c hc p hp => absurd hp (Nat.not_lt_zero p)⟩, mq_ex0, fun i hi => absurd hi (Nat.not_lt_zero i), rfl, rfl, rfl⟩
  · exact ⟨⟨fun t ht => ⟨Nat.zero_le 16, rfl⟩, fun c hc p hp => absurd hp (Nat.not_lt_zero p)⟩, mq_ex0, fun i hi => absurd hi (Nat.not_lt_zero i), rfl, rfl, rfl⟩
end MQ10
end
section
section MQ11
theorem mq_z10 : ¬ (1 : Int32) = 0 := by decide
theorem mx_hcell {post : SX → Prop} {gc pc tm : Int32} {ce rc tk co ln ki : Nat → Int32} {nm : Nat → Int64} {nu pr : Nat → Int32} {fa : Nat → Int64} {i : Nat} {v : Int32} (hi : i < 20) (K : ∀ a b, mq_rx a b (mq_lf v) → post (gc, pc, tm, ce, rc, tk, co, ln, ki, vp_updL nm i b, upd nu i a, pr, fa)) : wpX_holdCell post (gc, pc, tm, ce, rc, tk, co, ln, ki, nm, nu, pr, fa) (nI i) v := by
  have i1 : vp_in (nI i) 20 := vp_in_nI hi (by decide)
  have c1 : (nI i).toNatClampNeg = i := nI_clamp (by omega)
  by_cases hv : v = -2147483648
  · refine br_t hv ⟨i1, ?_⟩
    rw [c1, mn_b1]
    refine nm_e ⟨i1, nm_e (K _ _ ?_)⟩
    unfold mq_lf
    rw [if_pos hv]
    exact rfl
  · refine br_f hv ⟨i1, ?_⟩
    rw [c1, mn_b0]
    refine nm_e ⟨i1, nm_e (K _ _ ?_)⟩
    unfold mq_lf
    rw [if_neg hv]
    exact ⟨rfl, rfl⟩
theorem mx_h30 {post : SX → Prop} {gc pc tm : Int32} {ce rc tk co ln ki : Nat → Int32} {nm : Nat → Int64} {nu pr : Nat → Int32} {fa : Nat → Int64} {p : Nat} (hp : p + 1 < 20) {a b c : Option Int64} (ha : mq_rx (nu p) (nm p) a) (hb : mq_rx (nu (p + 1)) (nm (p + 1)) b)
    (K : ∀ x y, mq_rx x y (mq_op 30 a b c) → post (gc, pc, tm, ce, rc, tk, co, ln, ki, vp_updL nm (p + 1) y, upd nu (p + 1) x, pr, fa)) : wpX_holdJunction post (gc, pc, tm, ce, rc, tk, co, ln, ki, nm, nu, pr, fa) 30 (nI p) (nI (p + 1)) := by
  have i1 : vp_in (nI p) 20 := vp_in_nI (by omega) (by decide)
  have c1 : (nI p).toNatClampNeg = p := nI_clamp (by omega)
  have i2 : vp_in (nI (p + 1)) 20 := vp_in_nI (by omega) (by decide)
  have c2 : (nI (p + 1)).toNatClampNeg = p + 1 := nI_clamp (by omega)
  by_cases hx : nm p = 0
  · by_cases hy : nm (p + 1) = 0
    · cases a with
      | none =>
        have ha1 : nu p = 1 := ha
        cases b with
        | none =>
          have hb1 : nu (p + 1) = 1 := hb
          simp [wpX_holdJunction, wX_holdJunction_11, wX_holdJunction_38, wX_holdJunction_39, wX_holdJunction_70, wX_holdJunction_71, wX_holdJunction_83, wX_holdJunction_88, wX_holdJunction_120, wX_holdJunction_124, wX_holdJunction_125, nI_1, i1, i2, c1, c2, mn_b0, mn_b1, ha1, hb1, hx, hy]
          exact K _ _ (by simp [mq_rx, mq_op, mq_b2, hx, hy])
        | some y =>
          obtain ⟨hb1, rfl⟩ := hb
          simp [wpX_holdJunction, wX_holdJunction_11, wX_holdJunction_38, wX_holdJunction_39, wX_holdJunction_70, wX_holdJunction_71, wX_holdJunction_83, wX_holdJunction_88, wX_holdJunction_120, wX_holdJunction_124, wX_holdJunction_125, nI_1, i1, i2, c1, c2, mn_b0, mn_b1, ha1, hb1, hx, hy]
          exact K _ _ (by simp [mq_rx, mq_op, mq_b2, hx, hy])
      | some x =>
        obtain ⟨ha1, rfl⟩ := ha
        cases b with
        | none =>
          have hb1 : nu (p + 1) = 1 := hb
          simp [wpX_holdJunction, wX_holdJunction_11, wX_holdJunction_38, wX_holdJunction_39, wX_holdJunction_70, wX_holdJunction_71, wX_holdJunction_83, wX_holdJunction_88, wX_holdJunction_120, wX_holdJunction_124, wX_holdJunction_125, nI_1, i1, i2, c1, c2, mn_b0, mn_b1, ha1, hb1, hx, hy]
          exact K _ _ (by simp [mq_rx, mq_op, mq_b2, hx, hy])
        | some y =>
          obtain ⟨hb1, rfl⟩ := hb
          simp [wpX_holdJunction, wX_holdJunction_11, wX_holdJunction_38, wX_holdJunction_39, wX_holdJunction_70, wX_holdJunction_71, wX_holdJunction_83, wX_holdJunction_88, wX_holdJunction_120, wX_holdJunction_124, wX_holdJunction_125, nI_1, i1, i2, c1, c2, mn_b0, mn_b1, ha1, hb1, hx, hy]
          exact K _ _ (by simp [mq_rx, mq_op, mq_b2, hx, hy])
    · cases a with
      | none =>
        have ha1 : nu p = 1 := ha
        cases b with
        | none =>
          have hb1 : nu (p + 1) = 1 := hb
          simp [wpX_holdJunction, wX_holdJunction_11, wX_holdJunction_38, wX_holdJunction_39, wX_holdJunction_70, wX_holdJunction_71, wX_holdJunction_83, wX_holdJunction_88, wX_holdJunction_120, wX_holdJunction_124, wX_holdJunction_125, nI_1, i1, i2, c1, c2, mn_b0, mn_b1, ha1, hb1, hx, hy]
          exact K _ _ (by simp [mq_rx, mq_op, mq_b2, hx, hy])
        | some y =>
          obtain ⟨hb1, rfl⟩ := hb
          simp [wpX_holdJunction, wX_holdJunction_11, wX_holdJunction_38, wX_holdJunction_39, wX_holdJunction_70, wX_holdJunction_71, wX_holdJunction_83, wX_holdJunction_88, wX_holdJunction_120, wX_holdJunction_124, wX_holdJunction_125, nI_1, i1, i2, c1, c2, mn_b0, mn_b1, ha1, hb1, hx, hy]
          exact K _ _ (by simp [mq_rx, mq_op, mq_b2, hx, hy])
      | some x =>
        obtain ⟨ha1, rfl⟩ := ha
        cases b with
        | none =>
          have hb1 : nu (p + 1) = 1 := hb
          simp [wpX_holdJunction, wX_holdJunction_11, wX_holdJunction_38, wX_holdJunction_39, wX_holdJunction_70, wX_holdJunction_71, wX_holdJunction_83, wX_holdJunction_88, wX_holdJunction_120, wX_holdJunction_124, wX_holdJunction_125, nI_1, i1, i2, c1, c2, mn_b0, mn_b1, ha1, hb1, hx, hy]
          exact K _ _ (by simp [mq_rx, mq_op, mq_b2, hx, hy])
        | some y =>
          obtain ⟨hb1, rfl⟩ := hb
          simp [wpX_holdJunction, wX_holdJunction_11, wX_holdJunction_38, wX_holdJunction_39, wX_holdJunction_70, wX_holdJunction_71, wX_holdJunction_83, wX_holdJunction_88, wX_holdJunction_120, wX_holdJunction_124, wX_holdJunction_125, nI_1, i1, i2, c1, c2, mn_b0, mn_b1, ha1, hb1, hx, hy]
          exact K _ _ (by simp [mq_rx, mq_op, mq_b2, hx, hy])
  · by_cases hy : nm (p + 1) = 0
    · cases a with
      | none =>
        have ha1 : nu p = 1 := ha
        cases b with
        | none =>
          have hb1 : nu (p + 1) = 1 := hb
          simp [wpX_holdJunction, wX_holdJunction_11, wX_holdJunction_38, wX_holdJunction_39, wX_holdJunction_70, wX_holdJunction_71, wX_holdJunction_83, wX_holdJunction_88, wX_holdJunction_120, wX_holdJunction_124, wX_holdJunction_125, nI_1, i1, i2, c1, c2, mn_b0, mn_b1, ha1, hb1, hx, hy]
          exact K _ _ (by simp [mq_rx, mq_op, mq_b2, hx, hy])
        | some y =>
          obtain ⟨hb1, rfl⟩ := hb
          simp [wpX_holdJunction, wX_holdJunction_11, wX_holdJunction_38, wX_holdJunction_39, wX_holdJunction_70, wX_holdJunction_71, wX_holdJunction_83, wX_holdJunction_88, wX_holdJunction_120, wX_holdJunction_124, wX_holdJunction_125, nI_1, i1, i2, c1, c2, mn_b0, mn_b1, ha1, hb1, hx, hy]
          exact K _ _ (by simp [mq_rx, mq_op, mq_b2, hx, hy])
      | some x =>
        obtain ⟨ha1, rfl⟩ := ha
        cases b with
        | none =>
          have hb1 : nu (p + 1) = 1 := hb
          simp [wpX_holdJunction, wX_holdJunction_11, wX_holdJunction_38, wX_holdJunction_39, wX_holdJunction_70, wX_holdJunction_71, wX_holdJunction_83, wX_holdJunction_88, wX_holdJunction_120, wX_holdJunction_124, wX_holdJunction_125, nI_1, i1, i2, c1, c2, mn_b0, mn_b1, ha1, hb1, hx, hy]
          exact K _ _ (by simp [mq_rx, mq_op, mq_b2, hx, hy])
        | some y =>
          obtain ⟨hb1, rfl⟩ := hb
          simp [wpX_holdJunction, wX_holdJunction_11, wX_holdJunction_38, wX_holdJunction_39, wX_holdJunction_70, wX_holdJunction_71, wX_holdJunction_83, wX_holdJunction_88, wX_holdJunction_120, wX_holdJunction_124, wX_holdJunction_125, nI_1, i1, i2, c1, c2, mn_b0, mn_b1, ha1, hb1, hx, hy]
          exact K _ _ (by simp [mq_rx, mq_op, mq_b2, hx, hy])
    · cases a with
      | none =>
        have ha1 : nu p = 1 := ha
        cases b with
        | none =>
          have hb1 : nu (p + 1) = 1 := hb
          simp [wpX_holdJunction, wX_holdJunction_11, wX_holdJunction_38, wX_holdJunction_39, wX_holdJunction_70, wX_holdJunction_71, wX_holdJunction_83, wX_holdJunction_88, wX_holdJunction_120, wX_holdJunction_124, wX_holdJunction_125, nI_1, i1, i2, c1, c2, mn_b0, mn_b1, ha1, hb1, hx, hy]
          exact K _ _ (by simp [mq_rx, mq_op, mq_b2, hx, hy])
        | some y =>
          obtain ⟨hb1, rfl⟩ := hb
          simp [wpX_holdJunction, wX_holdJunction_11, wX_holdJunction_38, wX_holdJunction_39, wX_holdJunction_70, wX_holdJunction_71, wX_holdJunction_83, wX_holdJunction_88, wX_holdJunction_120, wX_holdJunction_124, wX_holdJunction_125, nI_1, i1, i2, c1, c2, mn_b0, mn_b1, ha1, hb1, hx, hy]
          exact K _ _ (by simp [mq_rx, mq_op, mq_b2, hx, hy])
      | some x =>
        obtain ⟨ha1, rfl⟩ := ha
        cases b with
        | none =>
          have hb1 : nu (p + 1) = 1 := hb
          simp [wpX_holdJunction, wX_holdJunction_11, wX_holdJunction_38, wX_holdJunction_39, wX_holdJunction_70, wX_holdJunction_71, wX_holdJunction_83, wX_holdJunction_88, wX_holdJunction_120, wX_holdJunction_124, wX_holdJunction_125, nI_1, i1, i2, c1, c2, mn_b0, mn_b1, ha1, hb1, hx, hy]
          exact K _ _ (by simp [mq_rx, mq_op, mq_b2, hx, hy])
        | some y =>
          obtain ⟨hb1, rfl⟩ := hb
          simp [wpX_holdJunction, wX_holdJunction_11, wX_holdJunction_38, wX_holdJunction_39, wX_holdJunction_70, wX_holdJunction_71, wX_holdJunction_83, wX_holdJunction_88, wX_holdJunction_120, wX_holdJunction_124, wX_holdJunction_125, nI_1, i1, i2, c1, c2, mn_b0, mn_b1, ha1, hb1, hx, hy]
          exact K _ _ (by simp [mq_rx, mq_op, mq_b2, hx, hy])
theorem mx_h31 {post : SX → Prop} {gc pc tm : Int32} {ce rc tk co ln ki : Nat → Int32} {nm : Nat → Int64} {nu pr : Nat → Int32} {fa : Nat → Int64} {p : Nat} (hp : p + 1 < 20) {a b c : Option Int64} (ha : mq_rx (nu p) (nm p) a) (hb : mq_rx (nu (p + 1)) (nm (p + 1)) b)
    (K : ∀ x y, mq_rx x y (mq_op 31 a b c) → post (gc, pc, tm, ce, rc, tk, co, ln, ki, vp_updL nm (p + 1) y, upd nu (p + 1) x, pr, fa)) : wpX_holdJunction post (gc, pc, tm, ce, rc, tk, co, ln, ki, nm, nu, pr, fa) 31 (nI p) (nI (p + 1)) := by
  have i1 : vp_in (nI p) 20 := vp_in_nI (by omega) (by decide)
  have c1 : (nI p).toNatClampNeg = p := nI_clamp (by omega)
  have i2 : vp_in (nI (p + 1)) 20 := vp_in_nI (by omega) (by decide)
  have c2 : (nI (p + 1)).toNatClampNeg = p + 1 := nI_clamp (by omega)
  by_cases hx : nm p = 1
  · by_cases hy : nm (p + 1) = 1
    · cases a with
      | none =>
        have ha1 : nu p = 1 := ha
        cases b with
        | none =>
          have hb1 : nu (p + 1) = 1 := hb
          simp [wpX_holdJunction, wX_holdJunction_11, wX_holdJunction_38, wX_holdJunction_39, wX_holdJunction_70, wX_holdJunction_71, wX_holdJunction_83, wX_holdJunction_88, wX_holdJunction_120, wX_holdJunction_124, wX_holdJunction_125, nI_1, i1, i2, c1, c2, mn_b0, mn_b1, ha1, hb1, hx, hy]
          exact K _ _ (by simp [mq_rx, mq_op, mq_b2, hx, hy])
        | some y =>
          obtain ⟨hb1, rfl⟩ := hb
          simp [wpX_holdJunction, wX_holdJunction_11, wX_holdJunction_38, wX_holdJunction_39, wX_holdJunction_70, wX_holdJunction_71, wX_holdJunction_83, wX_holdJunction_88, wX_holdJunction_120, wX_holdJunction_124, wX_holdJunction_125, nI_1, i1, i2, c1, c2, mn_b0, mn_b1, ha1, hb1, hx, hy]
          exact K _ _ (by simp [mq_rx, mq_op, mq_b2, hx, hy])
      | some x =>
        obtain ⟨ha1, rfl⟩ := ha
        cases b with
        | none =>
          have hb1 : nu (p + 1) = 1 := hb
          simp [wpX_holdJunction, wX_holdJunction_11, wX_holdJunction_38, wX_holdJunction_39, wX_holdJunction_70, wX_holdJunction_71, wX_holdJunction_83, wX_holdJunction_88, wX_holdJunction_120, wX_holdJunction_124, wX_holdJunction_125, nI_1, i1, i2, c1, c2, mn_b0, mn_b1, ha1, hb1, hx, hy]
          exact K _ _ (by simp [mq_rx, mq_op, mq_b2, hx, hy])
        | some y =>
          obtain ⟨hb1, rfl⟩ := hb
          simp [wpX_holdJunction, wX_holdJunction_11, wX_holdJunction_38, wX_holdJunction_39, wX_holdJunction_70, wX_holdJunction_71, wX_holdJunction_83, wX_holdJunction_88, wX_holdJunction_120, wX_holdJunction_124, wX_holdJunction_125, nI_1, i1, i2, c1, c2, mn_b0, mn_b1, ha1, hb1, hx, hy]
          exact K _ _ (by simp [mq_rx, mq_op, mq_b2, hx, hy])
    · cases a with
      | none =>
        have ha1 : nu p = 1 := ha
        cases b with
        | none =>
          have hb1 : nu (p + 1) = 1 := hb
          simp [wpX_holdJunction, wX_holdJunction_11, wX_holdJunction_38, wX_holdJunction_39, wX_holdJunction_70, wX_holdJunction_71, wX_holdJunction_83, wX_holdJunction_88, wX_holdJunction_120, wX_holdJunction_124, wX_holdJunction_125, nI_1, i1, i2, c1, c2, mn_b0, mn_b1, ha1, hb1, hx, hy]
          exact K _ _ (by simp [mq_rx, mq_op, mq_b2, hx, hy])
        | some y =>
          obtain ⟨hb1, rfl⟩ := hb
          simp [wpX_holdJunction, wX_holdJunction_11, wX_holdJunction_38, wX_holdJunction_39, wX_holdJunction_70, wX_holdJunction_71, wX_holdJunction_83, wX_holdJunction_88, wX_holdJunction_120, wX_holdJunction_124, wX_holdJunction_125, nI_1, i1, i2, c1, c2, mn_b0, mn_b1, ha1, hb1, hx, hy]
          exact K _ _ (by simp [mq_rx, mq_op, mq_b2, hx, hy])
      | some x =>
        obtain ⟨ha1, rfl⟩ := ha
        cases b with
        | none =>
          have hb1 : nu (p + 1) = 1 := hb
          simp [wpX_holdJunction, wX_holdJunction_11, wX_holdJunction_38, wX_holdJunction_39, wX_holdJunction_70, wX_holdJunction_71, wX_holdJunction_83, wX_holdJunction_88, wX_holdJunction_120, wX_holdJunction_124, wX_holdJunction_125, nI_1, i1, i2, c1, c2, mn_b0, mn_b1, ha1, hb1, hx, hy]
          exact K _ _ (by simp [mq_rx, mq_op, mq_b2, hx, hy])
        | some y =>
          obtain ⟨hb1, rfl⟩ := hb
          simp [wpX_holdJunction, wX_holdJunction_11, wX_holdJunction_38, wX_holdJunction_39, wX_holdJunction_70, wX_holdJunction_71, wX_holdJunction_83, wX_holdJunction_88, wX_holdJunction_120, wX_holdJunction_124, wX_holdJunction_125, nI_1, i1, i2, c1, c2, mn_b0, mn_b1, ha1, hb1, hx, hy]
          exact K _ _ (by simp [mq_rx, mq_op, mq_b2, hx, hy])
  · by_cases hy : nm (p + 1) = 1
    · cases a with
      | none =>
        have ha1 : nu p = 1 := ha
        cases b with
        | none =>
          have hb1 : nu (p + 1) = 1 := hb
          simp [wpX_holdJunction, wX_holdJunction_11, wX_holdJunction_38, wX_holdJunction_39, wX_holdJunction_70, wX_holdJunction_71, wX_holdJunction_83, wX_holdJunction_88, wX_holdJunction_120, wX_holdJunction_124, wX_holdJunction_125, nI_1, i1, i2, c1, c2, mn_b0, mn_b1, ha1, hb1, hx, hy]
          exact K _ _ (by simp [mq_rx, mq_op, mq_b2, hx, hy])
        | some y =>
          obtain ⟨hb1, rfl⟩ := hb
          simp [wpX_holdJunction, wX_holdJunction_11, wX_holdJunction_38, wX_holdJunction_39, wX_holdJunction_70, wX_holdJunction_71, wX_holdJunction_83, wX_holdJunction_88, wX_holdJunction_120, wX_holdJunction_124, wX_holdJunction_125, nI_1, i1, i2, c1, c2, mn_b0, mn_b1, ha1, hb1, hx, hy]
          exact K _ _ (by simp [mq_rx, mq_op, mq_b2, hx, hy])
      | some x =>
        obtain ⟨ha1, rfl⟩ := ha
        cases b with
        | none =>
          have hb1 : nu (p + 1) = 1 := hb
          simp [wpX_holdJunction, wX_holdJunction_11, wX_holdJunction_38, wX_holdJunction_39, wX_holdJunction_70, wX_holdJunction_71, wX_holdJunction_83, wX_holdJunction_88, wX_holdJunction_120, wX_holdJunction_124, wX_holdJunction_125, nI_1, i1, i2, c1, c2, mn_b0, mn_b1, ha1, hb1, hx, hy]
          exact K _ _ (by simp [mq_rx, mq_op, mq_b2, hx, hy])
        | some y =>
          obtain ⟨hb1, rfl⟩ := hb
          simp [wpX_holdJunction, wX_holdJunction_11, wX_holdJunction_38, wX_holdJunction_39, wX_holdJunction_70, wX_holdJunction_71, wX_holdJunction_83, wX_holdJunction_88, wX_holdJunction_120, wX_holdJunction_124, wX_holdJunction_125, nI_1, i1, i2, c1, c2, mn_b0, mn_b1, ha1, hb1, hx, hy]
          exact K _ _ (by simp [mq_rx, mq_op, mq_b2, hx, hy])
    · cases a with
      | none =>
        have ha1 : nu p = 1 := ha
        cases b with
        | none =>
          have hb1 : nu (p + 1) = 1 := hb
          simp [wpX_holdJunction, wX_holdJunction_11, wX_holdJunction_38, wX_holdJunction_39, wX_holdJunction_70, wX_holdJunction_71, wX_holdJunction_83, wX_holdJunction_88, wX_holdJunction_120, wX_holdJunction_124, wX_holdJunction_125, nI_1, i1, i2, c1, c2, mn_b0, mn_b1, ha1, hb1, hx, hy]
          exact K _ _ (by simp [mq_rx, mq_op, mq_b2, hx, hy])
        | some y =>
          obtain ⟨hb1, rfl⟩ := hb
          simp [wpX_holdJunction, wX_holdJunction_11, wX_holdJunction_38, wX_holdJunction_39, wX_holdJunction_70, wX_holdJunction_71, wX_holdJunction_83, wX_holdJunction_88, wX_holdJunction_120, wX_holdJunction_124, wX_holdJunction_125, nI_1, i1, i2, c1, c2, mn_b0, mn_b1, ha1, hb1, hx, hy]
          exact K _ _ (by simp [mq_rx, mq_op, mq_b2, hx, hy])
      | some x =>
        obtain ⟨ha1, rfl⟩ := ha
        cases b with
        | none =>
          have hb1 : nu (p + 1) = 1 := hb
          simp [wpX_holdJunction, wX_holdJunction_11, wX_holdJunction_38, wX_holdJunction_39, wX_holdJunction_70, wX_holdJunction_71, wX_holdJunction_83, wX_holdJunction_88, wX_holdJunction_120, wX_holdJunction_124, wX_holdJunction_125, nI_1, i1, i2, c1, c2, mn_b0, mn_b1, ha1, hb1, hx, hy]
          exact K _ _ (by simp [mq_rx, mq_op, mq_b2, hx, hy])
        | some y =>
          obtain ⟨hb1, rfl⟩ := hb
          simp [wpX_holdJunction, wX_holdJunction_11, wX_holdJunction_38, wX_holdJunction_39, wX_holdJunction_70, wX_holdJunction_71, wX_holdJunction_83, wX_holdJunction_88, wX_holdJunction_120, wX_holdJunction_124, wX_holdJunction_125, nI_1, i1, i2, c1, c2, mn_b0, mn_b1, ha1, hb1, hx, hy]
          exact K _ _ (by simp [mq_rx, mq_op, mq_b2, hx, hy])
theorem mx_h10 {post : SX → Prop} {gc pc tm : Int32} {ce rc tk co ln ki : Nat → Int32} {nm : Nat → Int64} {nu pr : Nat → Int32} {fa : Nat → Int64} {p : Nat} (hp : p + 1 < 20) {a b c : Option Int64} (ha : mq_rx (nu p) (nm p) a) (hb : mq_rx (nu (p + 1)) (nm (p + 1)) b)
    (K : ∀ x y, mq_rx x y (mq_op 10 a b c) → post (gc, pc, tm, ce, rc, tk, co, ln, ki, vp_updL nm (p + 1) y, upd nu (p + 1) x, pr, fa)) : wpX_holdUnlessNull post (gc, pc, tm, ce, rc, tk, co, ln, ki, nm, nu, pr, fa) 10 (nI p) (nI (p + 1)) := by
  have i1 : vp_in (nI p) 20 := vp_in_nI (by omega) (by decide)
  have c1 : (nI p).toNatClampNeg = p := nI_clamp (by omega)
  have i2 : vp_in (nI (p + 1)) 20 := vp_in_nI (by omega) (by decide)
  have c2 : (nI (p + 1)).toNatClampNeg = p + 1 := nI_clamp (by omega)
  cases a with
  | none =>
    have ha1 : nu p = 1 := ha
    cases b with
    | none =>
      have hb1 : nu (p + 1) = 1 := hb
      simp [wpX_holdUnlessNull, wX_holdUnlessNull_28, wX_holdUnlessNull_33, wX_holdUnlessNull_70, wX_holdUnlessNull_74, wX_holdUnlessNull_75, wpX_numberOf, wpX_truthOf, wX_truthOf_79, wX_truthOf_95, wX_truthOf_111, wX_truthOf_127, wX_truthOf_132, wX_truthOf_143, wX_truthOf_145, nI_1, i1, i2, c1, c2, mn_b0, mn_b1, ha1, hb1]
      exact K _ _ (by simp [mq_rx, mq_op, mq_b2])
    | some y =>
      obtain ⟨hb1, rfl⟩ := hb
      simp [wpX_holdUnlessNull, wX_holdUnlessNull_28, wX_holdUnlessNull_33, wX_holdUnlessNull_70, wX_holdUnlessNull_74, wX_holdUnlessNull_75, wpX_numberOf, wpX_truthOf, wX_truthOf_79, wX_truthOf_95, wX_truthOf_111, wX_truthOf_127, wX_truthOf_132, wX_truthOf_143, wX_truthOf_145, nI_1, i1, i2, c1, c2, mn_b0, mn_b1, ha1, hb1]
      exact K _ _ (by simp [mq_rx, mq_op, mq_b2])
  | some x =>
    obtain ⟨ha1, rfl⟩ := ha
    cases b with
    | none =>
      have hb1 : nu (p + 1) = 1 := hb
      simp [wpX_holdUnlessNull, wX_holdUnlessNull_28, wX_holdUnlessNull_33, wX_holdUnlessNull_70, wX_holdUnlessNull_74, wX_holdUnlessNull_75, wpX_numberOf, wpX_truthOf, wX_truthOf_79, wX_truthOf_95, wX_truthOf_111, wX_truthOf_127, wX_truthOf_132, wX_truthOf_143, wX_truthOf_145, nI_1, i1, i2, c1, c2, mn_b0, mn_b1, ha1, hb1]
      exact K _ _ (by simp [mq_rx, mq_op, mq_b2])
    | some y =>
      obtain ⟨hb1, rfl⟩ := hb
      simp [wpX_holdUnlessNull, wX_holdUnlessNull_28, wX_holdUnlessNull_33, wX_holdUnlessNull_70, wX_holdUnlessNull_74, wX_holdUnlessNull_75, wpX_numberOf, wpX_truthOf, wX_truthOf_79, wX_truthOf_95, wX_truthOf_111, wX_truthOf_127, wX_truthOf_132, wX_truthOf_143, wX_truthOf_145, nI_1, i1, i2, c1, c2, mn_b0, mn_b1, ha1, hb1]
      exact K _ _ (by simp [mq_rx, mq_op, mq_b2])
theorem mx_h11 {post : SX → Prop} {gc pc tm : Int32} {ce rc tk co ln ki : Nat → Int32} {nm : Nat → Int64} {nu pr : Nat → Int32} {fa : Nat → Int64} {p : Nat} (hp : p + 1 < 20) {a b c : Option Int64} (ha : mq_rx (nu p) (nm p) a) (hb : mq_rx (nu (p + 1)) (nm (p + 1)) b)
    (K : ∀ x y, mq_rx x y (mq_op 11 a b c) → post (gc, pc, tm, ce, rc, tk, co, ln, ki, vp_updL nm (p + 1) y, upd nu (p + 1) x, pr, fa)) : wpX_holdUnlessNull post (gc, pc, tm, ce, rc, tk, co, ln, ki, nm, nu, pr, fa) 11 (nI p) (nI (p + 1)) := by
  have i1 : vp_in (nI p) 20 := vp_in_nI (by omega) (by decide)
  have c1 : (nI p).toNatClampNeg = p := nI_clamp (by omega)
  have i2 : vp_in (nI (p + 1)) 20 := vp_in_nI (by omega) (by decide)
  have c2 : (nI (p + 1)).toNatClampNeg = p + 1 := nI_clamp (by omega)
  cases a with
  | none =>
    have ha1 : nu p = 1 := ha
    cases b with
    | none =>
      have hb1 : nu (p + 1) = 1 := hb
      simp [wpX_holdUnlessNull, wX_holdUnlessNull_28, wX_holdUnlessNull_33, wX_holdUnlessNull_70, wX_holdUnlessNull_74, wX_holdUnlessNull_75, wpX_numberOf, wpX_truthOf, wX_truthOf_79, wX_truthOf_95, wX_truthOf_111, wX_truthOf_127, wX_truthOf_132, wX_truthOf_143, wX_truthOf_145, nI_1, i1, i2, c1, c2, mn_b0, mn_b1, ha1, hb1]
      exact K _ _ (by simp [mq_rx, mq_op, mq_b2])
    | some y =>
      obtain ⟨hb1, rfl⟩ := hb
      simp [wpX_holdUnlessNull, wX_holdUnlessNull_28, wX_holdUnlessNull_33, wX_holdUnlessNull_70, wX_holdUnlessNull_74, wX_holdUnlessNull_75, wpX_numberOf, wpX_truthOf, wX_truthOf_79, wX_truthOf_95, wX_truthOf_111, wX_truthOf_127, wX_truthOf_132, wX_truthOf_143, wX_truthOf_145, nI_1, i1, i2, c1, c2, mn_b0, mn_b1, ha1, hb1]
      exact K _ _ (by simp [mq_rx, mq_op, mq_b2])
  | some x =>
    obtain ⟨ha1, rfl⟩ := ha
    cases b with
    | none =>
      have hb1 : nu (p + 1) = 1 := hb
      simp [wpX_holdUnlessNull, wX_holdUnlessNull_28, wX_holdUnlessNull_33, wX_holdUnlessNull_70, wX_holdUnlessNull_74, wX_holdUnlessNull_75, wpX_numberOf, wpX_truthOf, wX_truthOf_79, wX_truthOf_95, wX_truthOf_111, wX_truthOf_127, wX_truthOf_132, wX_truthOf_143, wX_truthOf_145, nI_1, i1, i2, c1, c2, mn_b0, mn_b1, ha1, hb1]
      exact K _ _ (by simp [mq_rx, mq_op, mq_b2])
    | some y =>
      obtain ⟨hb1, rfl⟩ := hb
      simp [wpX_holdUnlessNull, wX_holdUnlessNull_28, wX_holdUnlessNull_33, wX_holdUnlessNull_70, wX_holdUnlessNull_74, wX_holdUnlessNull_75, wpX_numberOf, wpX_truthOf, wX_truthOf_79, wX_truthOf_95, wX_truthOf_111, wX_truthOf_127, wX_truthOf_132, wX_truthOf_143, wX_truthOf_145, nI_1, i1, i2, c1, c2, mn_b0, mn_b1, ha1, hb1]
      exact K _ _ (by simp [mq_rx, mq_op, mq_b2])
theorem mx_h12 {post : SX → Prop} {gc pc tm : Int32} {ce rc tk co ln ki : Nat → Int32} {nm : Nat → Int64} {nu pr : Nat → Int32} {fa : Nat → Int64} {p : Nat} (hp : p + 1 < 20) {a b c : Option Int64} (ha : mq_rx (nu p) (nm p) a) (hb : mq_rx (nu (p + 1)) (nm (p + 1)) b)
    (K : ∀ x y, mq_rx x y (mq_op 12 a b c) → post (gc, pc, tm, ce, rc, tk, co, ln, ki, vp_updL nm (p + 1) y, upd nu (p + 1) x, pr, fa)) : wpX_holdUnlessNull post (gc, pc, tm, ce, rc, tk, co, ln, ki, nm, nu, pr, fa) 12 (nI p) (nI (p + 1)) := by
  have i1 : vp_in (nI p) 20 := vp_in_nI (by omega) (by decide)
  have c1 : (nI p).toNatClampNeg = p := nI_clamp (by omega)
  have i2 : vp_in (nI (p + 1)) 20 := vp_in_nI (by omega) (by decide)
  have c2 : (nI (p + 1)).toNatClampNeg = p + 1 := nI_clamp (by omega)
  cases a with
  | none =>
    have ha1 : nu p = 1 := ha
    cases b with
    | none =>
      have hb1 : nu (p + 1) = 1 := hb
      simp [wpX_holdUnlessNull, wX_holdUnlessNull_28, wX_holdUnlessNull_33, wX_holdUnlessNull_70, wX_holdUnlessNull_74, wX_holdUnlessNull_75, wpX_numberOf, wpX_truthOf, wX_truthOf_79, wX_truthOf_95, wX_truthOf_111, wX_truthOf_127, wX_truthOf_132, wX_truthOf_143, wX_truthOf_145, nI_1, i1, i2, c1, c2, mn_b0, mn_b1, ha1, hb1]
      exact K _ _ (by simp [mq_rx, mq_op, mq_b2])
    | some y =>
      obtain ⟨hb1, rfl⟩ := hb
      simp [wpX_holdUnlessNull, wX_holdUnlessNull_28, wX_holdUnlessNull_33, wX_holdUnlessNull_70, wX_holdUnlessNull_74, wX_holdUnlessNull_75, wpX_numberOf, wpX_truthOf, wX_truthOf_79, wX_truthOf_95, wX_truthOf_111, wX_truthOf_127, wX_truthOf_132, wX_truthOf_143, wX_truthOf_145, nI_1, i1, i2, c1, c2, mn_b0, mn_b1, ha1, hb1]
      exact K _ _ (by simp [mq_rx, mq_op, mq_b2])
  | some x =>
    obtain ⟨ha1, rfl⟩ := ha
    cases b with
    | none =>
      have hb1 : nu (p + 1) = 1 := hb
      simp [wpX_holdUnlessNull, wX_holdUnlessNull_28, wX_holdUnlessNull_33, wX_holdUnlessNull_70, wX_holdUnlessNull_74, wX_holdUnlessNull_75, wpX_numberOf, wpX_truthOf, wX_truthOf_79, wX_truthOf_95, wX_truthOf_111, wX_truthOf_127, wX_truthOf_132, wX_truthOf_143, wX_truthOf_145, nI_1, i1, i2, c1, c2, mn_b0, mn_b1, ha1, hb1]
      exact K _ _ (by simp [mq_rx, mq_op, mq_b2])
    | some y =>
      obtain ⟨hb1, rfl⟩ := hb
      simp [wpX_holdUnlessNull, wX_holdUnlessNull_28, wX_holdUnlessNull_33, wX_holdUnlessNull_70, wX_holdUnlessNull_74, wX_holdUnlessNull_75, wpX_numberOf, wpX_truthOf, wX_truthOf_79, wX_truthOf_95, wX_truthOf_111, wX_truthOf_127, wX_truthOf_132, wX_truthOf_143, wX_truthOf_145, nI_1, i1, i2, c1, c2, mn_b0, mn_b1, ha1, hb1]
      exact K _ _ (by simp [mq_rx, mq_op, mq_b2])
theorem mx_h13 {post : SX → Prop} {gc pc tm : Int32} {ce rc tk co ln ki : Nat → Int32} {nm : Nat → Int64} {nu pr : Nat → Int32} {fa : Nat → Int64} {p : Nat} (hp : p + 1 < 20) {a b c : Option Int64} (ha : mq_rx (nu p) (nm p) a) (hb : mq_rx (nu (p + 1)) (nm (p + 1)) b)
    (K : ∀ x y, mq_rx x y (mq_op 13 a b c) → post (gc, pc, tm, ce, rc, tk, co, ln, ki, vp_updL nm (p + 1) y, upd nu (p + 1) x, pr, fa)) : wpX_holdUnlessNull post (gc, pc, tm, ce, rc, tk, co, ln, ki, nm, nu, pr, fa) 13 (nI p) (nI (p + 1)) := by
  have i1 : vp_in (nI p) 20 := vp_in_nI (by omega) (by decide)
  have c1 : (nI p).toNatClampNeg = p := nI_clamp (by omega)
  have i2 : vp_in (nI (p + 1)) 20 := vp_in_nI (by omega) (by decide)
  have c2 : (nI (p + 1)).toNatClampNeg = p + 1 := nI_clamp (by omega)
  by_cases hz : nm (p + 1) = 0
  · cases a with
    | none =>
      have ha1 : nu p = 1 := ha
      cases b with
      | none =>
        have hb1 : nu (p + 1) = 1 := hb
        simp [wpX_holdUnlessNull, wX_holdUnlessNull_28, wX_holdUnlessNull_33, wX_holdUnlessNull_70, wX_holdUnlessNull_74, wX_holdUnlessNull_75, wpX_numberOf, wpX_truthOf, wX_truthOf_79, wX_truthOf_95, wX_truthOf_111, wX_truthOf_127, wX_truthOf_132, wX_truthOf_143, wX_truthOf_145, nI_1, i1, i2, c1, c2, mn_b0, mn_b1, ha1, hb1, hz]
        exact K _ _ (by simp [mq_rx, mq_op, mq_b2, hz])
      | some y =>
        obtain ⟨hb1, rfl⟩ := hb
        simp [wpX_holdUnlessNull, wX_holdUnlessNull_28, wX_holdUnlessNull_33, wX_holdUnlessNull_70, wX_holdUnlessNull_74, wX_holdUnlessNull_75, wpX_numberOf, wpX_truthOf, wX_truthOf_79, wX_truthOf_95, wX_truthOf_111, wX_truthOf_127, wX_truthOf_132, wX_truthOf_143, wX_truthOf_145, nI_1, i1, i2, c1, c2, mn_b0, mn_b1, ha1, hb1, hz]
        exact K _ _ (by simp [mq_rx, mq_op, mq_b2, hz])
    | some x =>
      obtain ⟨ha1, rfl⟩ := ha
      cases b with
      | none =>
        have hb1 : nu (p + 1) = 1 := hb
        simp [wpX_holdUnlessNull, wX_holdUnlessNull_28, wX_holdUnlessNull_33, wX_holdUnlessNull_70, wX_holdUnlessNull_74, wX_holdUnlessNull_75, wpX_numberOf, wpX_truthOf, wX_truthOf_79, wX_truthOf_95, wX_truthOf_111, wX_truthOf_127, wX_truthOf_132, wX_truthOf_143, wX_truthOf_145, nI_1, i1, i2, c1, c2, mn_b0, mn_b1, ha1, hb1, hz]
        exact K _ _ (by simp [mq_rx, mq_op, mq_b2, hz])
      | some y =>
        obtain ⟨hb1, rfl⟩ := hb
        simp [wpX_holdUnlessNull, wX_holdUnlessNull_28, wX_holdUnlessNull_33, wX_holdUnlessNull_70, wX_holdUnlessNull_74, wX_holdUnlessNull_75, wpX_numberOf, wpX_truthOf, wX_truthOf_79, wX_truthOf_95, wX_truthOf_111, wX_truthOf_127, wX_truthOf_132, wX_truthOf_143, wX_truthOf_145, nI_1, i1, i2, c1, c2, mn_b0, mn_b1, ha1, hb1, hz]
        exact K _ _ (by simp [mq_rx, mq_op, mq_b2, hz])
  · cases a with
    | none =>
      have ha1 : nu p = 1 := ha
      cases b with
      | none =>
        have hb1 : nu (p + 1) = 1 := hb
        simp [wpX_holdUnlessNull, wX_holdUnlessNull_28, wX_holdUnlessNull_33, wX_holdUnlessNull_70, wX_holdUnlessNull_74, wX_holdUnlessNull_75, wpX_numberOf, wpX_truthOf, wX_truthOf_79, wX_truthOf_95, wX_truthOf_111, wX_truthOf_127, wX_truthOf_132, wX_truthOf_143, wX_truthOf_145, nI_1, i1, i2, c1, c2, mn_b0, mn_b1, ha1, hb1, hz]
        exact K _ _ (by simp [mq_rx, mq_op, mq_b2, hz])
      | some y =>
        obtain ⟨hb1, rfl⟩ := hb
        simp [wpX_holdUnlessNull, wX_holdUnlessNull_28, wX_holdUnlessNull_33, wX_holdUnlessNull_70, wX_holdUnlessNull_74, wX_holdUnlessNull_75, wpX_numberOf, wpX_truthOf, wX_truthOf_79, wX_truthOf_95, wX_truthOf_111, wX_truthOf_127, wX_truthOf_132, wX_truthOf_143, wX_truthOf_145, nI_1, i1, i2, c1, c2, mn_b0, mn_b1, ha1, hb1, hz]
        exact K _ _ (by simp [mq_rx, mq_op, mq_b2, hz])
    | some x =>
      obtain ⟨ha1, rfl⟩ := ha
      cases b with
      | none =>
        have hb1 : nu (p + 1) = 1 := hb
        simp [wpX_holdUnlessNull, wX_holdUnlessNull_28, wX_holdUnlessNull_33, wX_holdUnlessNull_70, wX_holdUnlessNull_74, wX_holdUnlessNull_75, wpX_numberOf, wpX_truthOf, wX_truthOf_79, wX_truthOf_95, wX_truthOf_111, wX_truthOf_127, wX_truthOf_132, wX_truthOf_143, wX_truthOf_145, nI_1, i1, i2, c1, c2, mn_b0, mn_b1, ha1, hb1, hz]
        exact K _ _ (by simp [mq_rx, mq_op, mq_b2, hz])
      | some y =>
        obtain ⟨hb1, rfl⟩ := hb
        simp [wpX_holdUnlessNull, wX_holdUnlessNull_28, wX_holdUnlessNull_33, wX_holdUnlessNull_70, wX_holdUnlessNull_74, wX_holdUnlessNull_75, wpX_numberOf, wpX_truthOf, wX_truthOf_79, wX_truthOf_95, wX_truthOf_111, wX_truthOf_127, wX_truthOf_132, wX_truthOf_143, wX_truthOf_145, nI_1, i1, i2, c1, c2, mn_b0, mn_b1, ha1, hb1, hz]
        exact K _ _ (by simp [mq_rx, mq_op, mq_b2, hz])
theorem mx_h14 {post : SX → Prop} {gc pc tm : Int32} {ce rc tk co ln ki : Nat → Int32} {nm : Nat → Int64} {nu pr : Nat → Int32} {fa : Nat → Int64} {p : Nat} (hp : p + 1 < 20) {a b c : Option Int64} (ha : mq_rx (nu p) (nm p) a) (hb : mq_rx (nu (p + 1)) (nm (p + 1)) b)
    (K : ∀ x y, mq_rx x y (mq_op 14 a b c) → post (gc, pc, tm, ce, rc, tk, co, ln, ki, vp_updL nm (p + 1) y, upd nu (p + 1) x, pr, fa)) : wpX_holdUnlessNull post (gc, pc, tm, ce, rc, tk, co, ln, ki, nm, nu, pr, fa) 14 (nI p) (nI (p + 1)) := by
  have i1 : vp_in (nI p) 20 := vp_in_nI (by omega) (by decide)
  have c1 : (nI p).toNatClampNeg = p := nI_clamp (by omega)
  have i2 : vp_in (nI (p + 1)) 20 := vp_in_nI (by omega) (by decide)
  have c2 : (nI (p + 1)).toNatClampNeg = p + 1 := nI_clamp (by omega)
  by_cases hz : nm (p + 1) = 0
  · cases a with
    | none =>
      have ha1 : nu p = 1 := ha
      cases b with
      | none =>
        have hb1 : nu (p + 1) = 1 := hb
        simp [wpX_holdUnlessNull, wX_holdUnlessNull_28, wX_holdUnlessNull_33, wX_holdUnlessNull_70, wX_holdUnlessNull_74, wX_holdUnlessNull_75, wpX_numberOf, wpX_truthOf, wX_truthOf_79, wX_truthOf_95, wX_truthOf_111, wX_truthOf_127, wX_truthOf_132, wX_truthOf_143, wX_truthOf_145, nI_1, i1, i2, c1, c2, mn_b0, mn_b1, ha1, hb1, hz]
        exact K _ _ (by simp [mq_rx, mq_op, mq_b2, hz])
      | some y =>
        obtain ⟨hb1, rfl⟩ := hb
        simp [wpX_holdUnlessNull, wX_holdUnlessNull_28, wX_holdUnlessNull_33, wX_holdUnlessNull_70, wX_holdUnlessNull_74, wX_holdUnlessNull_75, wpX_numberOf, wpX_truthOf, wX_truthOf_79, wX_truthOf_95, wX_truthOf_111, wX_truthOf_127, wX_truthOf_132, wX_truthOf_143, wX_truthOf_145, nI_1, i1, i2, c1, c2, mn_b0, mn_b1, ha1, hb1, hz]
        exact K _ _ (by simp [mq_rx, mq_op, mq_b2, hz])
    | some x =>
      obtain ⟨ha1, rfl⟩ := ha
      cases b with
      | none =>
        have hb1 : nu (p + 1) = 1 := hb
        simp [wpX_holdUnlessNull, wX_holdUnlessNull_28, wX_holdUnlessNull_33, wX_holdUnlessNull_70, wX_holdUnlessNull_74, wX_holdUnlessNull_75, wpX_numberOf, wpX_truthOf, wX_truthOf_79, wX_truthOf_95, wX_truthOf_111, wX_truthOf_127, wX_truthOf_132, wX_truthOf_143, wX_truthOf_145, nI_1, i1, i2, c1, c2, mn_b0, mn_b1, ha1, hb1, hz]
        exact K _ _ (by simp [mq_rx, mq_op, mq_b2, hz])
      | some y =>
        obtain ⟨hb1, rfl⟩ := hb
        simp [wpX_holdUnlessNull, wX_holdUnlessNull_28, wX_holdUnlessNull_33, wX_holdUnlessNull_70, wX_holdUnlessNull_74, wX_holdUnlessNull_75, wpX_numberOf, wpX_truthOf, wX_truthOf_79, wX_truthOf_95, wX_truthOf_111, wX_truthOf_127, wX_truthOf_132, wX_truthOf_143, wX_truthOf_145, nI_1, i1, i2, c1, c2, mn_b0, mn_b1, ha1, hb1, hz]
        exact K _ _ (by simp [mq_rx, mq_op, mq_b2, hz])
  · cases a with
    | none =>
      have ha1 : nu p = 1 := ha
      cases b with
      | none =>
        have hb1 : nu (p + 1) = 1 := hb
        simp [wpX_holdUnlessNull, wX_holdUnlessNull_28, wX_holdUnlessNull_33, wX_holdUnlessNull_70, wX_holdUnlessNull_74, wX_holdUnlessNull_75, wpX_numberOf, wpX_truthOf, wX_truthOf_79, wX_truthOf_95, wX_truthOf_111, wX_truthOf_127, wX_truthOf_132, wX_truthOf_143, wX_truthOf_145, nI_1, i1, i2, c1, c2, mn_b0, mn_b1, ha1, hb1, hz]
        exact K _ _ (by simp [mq_rx, mq_op, mq_b2, hz])
      | some y =>
        obtain ⟨hb1, rfl⟩ := hb
        simp [wpX_holdUnlessNull, wX_holdUnlessNull_28, wX_holdUnlessNull_33, wX_holdUnlessNull_70, wX_holdUnlessNull_74, wX_holdUnlessNull_75, wpX_numberOf, wpX_truthOf, wX_truthOf_79, wX_truthOf_95, wX_truthOf_111, wX_truthOf_127, wX_truthOf_132, wX_truthOf_143, wX_truthOf_145, nI_1, i1, i2, c1, c2, mn_b0, mn_b1, ha1, hb1, hz]
        exact K _ _ (by simp [mq_rx, mq_op, mq_b2, hz])
    | some x =>
      obtain ⟨ha1, rfl⟩ := ha
      cases b with
      | none =>
        have hb1 : nu (p + 1) = 1 := hb
        simp [wpX_holdUnlessNull, wX_holdUnlessNull_28, wX_holdUnlessNull_33, wX_holdUnlessNull_70, wX_holdUnlessNull_74, wX_holdUnlessNull_75, wpX_numberOf, wpX_truthOf, wX_truthOf_79, wX_truthOf_95, wX_truthOf_111, wX_truthOf_127, wX_truthOf_132, wX_truthOf_143, wX_truthOf_145, nI_1, i1, i2, c1, c2, mn_b0, mn_b1, ha1, hb1, hz]
        exact K _ _ (by simp [mq_rx, mq_op, mq_b2, hz])
      | some y =>
        obtain ⟨hb1, rfl⟩ := hb
        simp [wpX_holdUnlessNull, wX_holdUnlessNull_28, wX_holdUnlessNull_33, wX_holdUnlessNull_70, wX_holdUnlessNull_74, wX_holdUnlessNull_75, wpX_numberOf, wpX_truthOf, wX_truthOf_79, wX_truthOf_95, wX_truthOf_111, wX_truthOf_127, wX_truthOf_132, wX_truthOf_143, wX_truthOf_145, nI_1, i1, i2, c1, c2, mn_b0, mn_b1, ha1, hb1, hz]
        exact K _ _ (by simp [mq_rx, mq_op, mq_b2, hz])
theorem mx_h20 {post : SX → Prop} {gc pc tm : Int32} {ce rc tk co ln ki : Nat → Int32} {nm : Nat → Int64} {nu pr : Nat → Int32} {fa : Nat → Int64} {p : Nat} (hp : p + 1 < 20) {a b c : Option Int64} (ha : mq_rx (nu p) (nm p) a) (hb : mq_rx (nu (p + 1)) (nm (p + 1)) b)
    (K : ∀ x y, mq_rx x y (mq_op 20 a b c) → post (gc, pc, tm, ce, rc, tk, co, ln, ki, vp_updL nm (p + 1) y, upd nu (p + 1) x, pr, fa)) : wpX_holdUnlessNull post (gc, pc, tm, ce, rc, tk, co, ln, ki, nm, nu, pr, fa) 20 (nI p) (nI (p + 1)) := by
  have i1 : vp_in (nI p) 20 := vp_in_nI (by omega) (by decide)
  have c1 : (nI p).toNatClampNeg = p := nI_clamp (by omega)
  have i2 : vp_in (nI (p + 1)) 20 := vp_in_nI (by omega) (by decide)
  have c2 : (nI (p + 1)).toNatClampNeg = p + 1 := nI_clamp (by omega)
  by_cases hz : nm p = nm (p + 1)
  · cases a with
    | none =>
      have ha1 : nu p = 1 := ha
      cases b with
      | none =>
        have hb1 : nu (p + 1) = 1 := hb
        simp [wpX_holdUnlessNull, wX_holdUnlessNull_28, wX_holdUnlessNull_33, wX_holdUnlessNull_70, wX_holdUnlessNull_74, wX_holdUnlessNull_75, wpX_numberOf, wpX_truthOf, wX_truthOf_79, wX_truthOf_95, wX_truthOf_111, wX_truthOf_127, wX_truthOf_132, wX_truthOf_143, wX_truthOf_145, nI_1, i1, i2, c1, c2, mn_b0, mn_b1, ha1, hb1, hz]
        exact K _ _ (by simp [mq_rx, mq_op, mq_b2, hz])
      | some y =>
        obtain ⟨hb1, rfl⟩ := hb
        simp [wpX_holdUnlessNull, wX_holdUnlessNull_28, wX_holdUnlessNull_33, wX_holdUnlessNull_70, wX_holdUnlessNull_74, wX_holdUnlessNull_75, wpX_numberOf, wpX_truthOf, wX_truthOf_79, wX_truthOf_95, wX_truthOf_111, wX_truthOf_127, wX_truthOf_132, wX_truthOf_143, wX_truthOf_145, nI_1, i1, i2, c1, c2, mn_b0, mn_b1, ha1, hb1, hz]
        exact K _ _ (by simp [mq_rx, mq_op, mq_b2, hz])
    | some x =>
      obtain ⟨ha1, rfl⟩ := ha
      cases b with
      | none =>
        have hb1 : nu (p + 1) = 1 := hb
        simp [wpX_holdUnlessNull, wX_holdUnlessNull_28, wX_holdUnlessNull_33, wX_holdUnlessNull_70, wX_holdUnlessNull_74, wX_holdUnlessNull_75, wpX_numberOf, wpX_truthOf, wX_truthOf_79, wX_truthOf_95, wX_truthOf_111, wX_truthOf_127, wX_truthOf_132, wX_truthOf_143, wX_truthOf_145, nI_1, i1, i2, c1, c2, mn_b0, mn_b1, ha1, hb1, hz]
        exact K _ _ (by simp [mq_rx, mq_op, mq_b2, hz])
      | some y =>
        obtain ⟨hb1, rfl⟩ := hb
        simp [wpX_holdUnlessNull, wX_holdUnlessNull_28, wX_holdUnlessNull_33, wX_holdUnlessNull_70, wX_holdUnlessNull_74, wX_holdUnlessNull_75, wpX_numberOf, wpX_truthOf, wX_truthOf_79, wX_truthOf_95, wX_truthOf_111, wX_truthOf_127, wX_truthOf_132, wX_truthOf_143, wX_truthOf_145, nI_1, i1, i2, c1, c2, mn_b0, mn_b1, ha1, hb1, hz]
        exact K _ _ (by simp [mq_rx, mq_op, mq_b2, hz])
  · cases a with
    | none =>
      have ha1 : nu p = 1 := ha
      cases b with
      | none =>
        have hb1 : nu (p + 1) = 1 := hb
        simp [wpX_holdUnlessNull, wX_holdUnlessNull_28, wX_holdUnlessNull_33, wX_holdUnlessNull_70, wX_holdUnlessNull_74, wX_holdUnlessNull_75, wpX_numberOf, wpX_truthOf, wX_truthOf_79, wX_truthOf_95, wX_truthOf_111, wX_truthOf_127, wX_truthOf_132, wX_truthOf_143, wX_truthOf_145, nI_1, i1, i2, c1, c2, mn_b0, mn_b1, ha1, hb1, hz]
        exact K _ _ (by simp [mq_rx, mq_op, mq_b2, hz])
      | some y =>
        obtain ⟨hb1, rfl⟩ := hb
        simp [wpX_holdUnlessNull, wX_holdUnlessNull_28, wX_holdUnlessNull_33, wX_holdUnlessNull_70, wX_holdUnlessNull_74, wX_holdUnlessNull_75, wpX_numberOf, wpX_truthOf, wX_truthOf_79, wX_truthOf_95, wX_truthOf_111, wX_truthOf_127, wX_truthOf_132, wX_truthOf_143, wX_truthOf_145, nI_1, i1, i2, c1, c2, mn_b0, mn_b1, ha1, hb1, hz]
        exact K _ _ (by simp [mq_rx, mq_op, mq_b2, hz])
    | some x =>
      obtain ⟨ha1, rfl⟩ := ha
      cases b with
      | none =>
        have hb1 : nu (p + 1) = 1 := hb
        simp [wpX_holdUnlessNull, wX_holdUnlessNull_28, wX_holdUnlessNull_33, wX_holdUnlessNull_70, wX_holdUnlessNull_74, wX_holdUnlessNull_75, wpX_numberOf, wpX_truthOf, wX_truthOf_79, wX_truthOf_95, wX_truthOf_111, wX_truthOf_127, wX_truthOf_132, wX_truthOf_143, wX_truthOf_145, nI_1, i1, i2, c1, c2, mn_b0, mn_b1, ha1, hb1, hz]
        exact K _ _ (by simp [mq_rx, mq_op, mq_b2, hz])
      | some y =>
        obtain ⟨hb1, rfl⟩ := hb
        simp [wpX_holdUnlessNull, wX_holdUnlessNull_28, wX_holdUnlessNull_33, wX_holdUnlessNull_70, wX_holdUnlessNull_74, wX_holdUnlessNull_75, wpX_numberOf, wpX_truthOf, wX_truthOf_79, wX_truthOf_95, wX_truthOf_111, wX_truthOf_127, wX_truthOf_132, wX_truthOf_143, wX_truthOf_145, nI_1, i1, i2, c1, c2, mn_b0, mn_b1, ha1, hb1, hz]
        exact K _ _ (by simp [mq_rx, mq_op, mq_b2, hz])
theorem mx_h21 {post : SX → Prop} {gc pc tm : Int32} {ce rc tk co ln ki : Nat → Int32} {nm : Nat → Int64} {nu pr : Nat → Int32} {fa : Nat → Int64} {p : Nat} (hp : p + 1 < 20) {a b c : Option Int64} (ha : mq_rx (nu p) (nm p) a) (hb : mq_rx (nu (p + 1)) (nm (p + 1)) b)
    (K : ∀ x y, mq_rx x y (mq_op 21 a b c) → post (gc, pc, tm, ce, rc, tk, co, ln, ki, vp_updL nm (p + 1) y, upd nu (p + 1) x, pr, fa)) : wpX_holdUnlessNull post (gc, pc, tm, ce, rc, tk, co, ln, ki, nm, nu, pr, fa) 21 (nI p) (nI (p + 1)) := by
  have i1 : vp_in (nI p) 20 := vp_in_nI (by omega) (by decide)
  have c1 : (nI p).toNatClampNeg = p := nI_clamp (by omega)
  have i2 : vp_in (nI (p + 1)) 20 := vp_in_nI (by omega) (by decide)
  have c2 : (nI (p + 1)).toNatClampNeg = p + 1 := nI_clamp (by omega)
  by_cases hz : nm (p + 1) ≤ nm p
  · have hz' : ¬ nm p < nm (p + 1) := Int64.not_lt.mpr hz
    cases a with
    | none =>
      have ha1 : nu p = 1 := ha
      cases b with
      | none =>
        have hb1 : nu (p + 1) = 1 := hb
        simp [wpX_holdUnlessNull, wX_holdUnlessNull_28, wX_holdUnlessNull_33, wX_holdUnlessNull_70, wX_holdUnlessNull_74, wX_holdUnlessNull_75, wpX_numberOf, wpX_truthOf, wX_truthOf_79, wX_truthOf_95, wX_truthOf_111, wX_truthOf_127, wX_truthOf_132, wX_truthOf_143, wX_truthOf_145, nI_1, i1, i2, c1, c2, mn_b0, mn_b1, ha1, hb1, hz, hz']
        exact K _ _ (by simp [mq_rx, mq_op, mq_b2, hz, hz'])
      | some y =>
        obtain ⟨hb1, rfl⟩ := hb
        simp [wpX_holdUnlessNull, wX_holdUnlessNull_28, wX_holdUnlessNull_33, wX_holdUnlessNull_70, wX_holdUnlessNull_74, wX_holdUnlessNull_75, wpX_numberOf, wpX_truthOf, wX_truthOf_79, wX_truthOf_95, wX_truthOf_111, wX_truthOf_127, wX_truthOf_132, wX_truthOf_143, wX_truthOf_145, nI_1, i1, i2, c1, c2, mn_b0, mn_b1, ha1, hb1, hz, hz']
        exact K _ _ (by simp [mq_rx, mq_op, mq_b2, hz, hz'])
    | some x =>
      obtain ⟨ha1, rfl⟩ := ha
      cases b with
      | none =>
        have hb1 : nu (p + 1) = 1 := hb
        simp [wpX_holdUnlessNull, wX_holdUnlessNull_28, wX_holdUnlessNull_33, wX_holdUnlessNull_70, wX_holdUnlessNull_74, wX_holdUnlessNull_75, wpX_numberOf, wpX_truthOf, wX_truthOf_79, wX_truthOf_95, wX_truthOf_111, wX_truthOf_127, wX_truthOf_132, wX_truthOf_143, wX_truthOf_145, nI_1, i1, i2, c1, c2, mn_b0, mn_b1, ha1, hb1, hz, hz']
        exact K _ _ (by simp [mq_rx, mq_op, mq_b2, hz, hz'])
      | some y =>
        obtain ⟨hb1, rfl⟩ := hb
        simp [wpX_holdUnlessNull, wX_holdUnlessNull_28, wX_holdUnlessNull_33, wX_holdUnlessNull_70, wX_holdUnlessNull_74, wX_holdUnlessNull_75, wpX_numberOf, wpX_truthOf, wX_truthOf_79, wX_truthOf_95, wX_truthOf_111, wX_truthOf_127, wX_truthOf_132, wX_truthOf_143, wX_truthOf_145, nI_1, i1, i2, c1, c2, mn_b0, mn_b1, ha1, hb1, hz, hz']
        exact K _ _ (by simp [mq_rx, mq_op, mq_b2, hz, hz'])
  · have hz' : nm p < nm (p + 1) := Int64.not_le.mp hz
    cases a with
    | none =>
      have ha1 : nu p = 1 := ha
      cases b with
      | none =>
        have hb1 : nu (p + 1) = 1 := hb
        simp [wpX_holdUnlessNull, wX_holdUnlessNull_28, wX_holdUnlessNull_33, wX_holdUnlessNull_70, wX_holdUnlessNull_74, wX_holdUnlessNull_75, wpX_numberOf, wpX_truthOf, wX_truthOf_79, wX_truthOf_95, wX_truthOf_111, wX_truthOf_127, wX_truthOf_132, wX_truthOf_143, wX_truthOf_145, nI_1, i1, i2, c1, c2, mn_b0, mn_b1, ha1, hb1, hz, hz']
        exact K _ _ (by simp [mq_rx, mq_op, mq_b2, hz, hz'])
      | some y =>
        obtain ⟨hb1, rfl⟩ := hb
        simp [wpX_holdUnlessNull, wX_holdUnlessNull_28, wX_holdUnlessNull_33, wX_holdUnlessNull_70, wX_holdUnlessNull_74, wX_holdUnlessNull_75, wpX_numberOf, wpX_truthOf, wX_truthOf_79, wX_truthOf_95, wX_truthOf_111, wX_truthOf_127, wX_truthOf_132, wX_truthOf_143, wX_truthOf_145, nI_1, i1, i2, c1, c2, mn_b0, mn_b1, ha1, hb1, hz, hz']
        exact K _ _ (by simp [mq_rx, mq_op, mq_b2, hz, hz'])
    | some x =>
      obtain ⟨ha1, rfl⟩ := ha
      cases b with
      | none =>
        have hb1 : nu (p + 1) = 1 := hb
        simp [wpX_holdUnlessNull, wX_holdUnlessNull_28, wX_holdUnlessNull_33, wX_holdUnlessNull_70, wX_holdUnlessNull_74, wX_holdUnlessNull_75, wpX_numberOf, wpX_truthOf, wX_truthOf_79, wX_truthOf_95, wX_truthOf_111, wX_truthOf_127, wX_truthOf_132, wX_truthOf_143, wX_truthOf_145, nI_1, i1, i2, c1, c2, mn_b0, mn_b1, ha1, hb1, hz, hz']
        exact K _ _ (by simp [mq_rx, mq_op, mq_b2, hz, hz'])
      | some y =>
        obtain ⟨hb1, rfl⟩ := hb
        simp [wpX_holdUnlessNull, wX_holdUnlessNull_28, wX_holdUnlessNull_33, wX_holdUnlessNull_70, wX_holdUnlessNull_74, wX_holdUnlessNull_75, wpX_numberOf, wpX_truthOf, wX_truthOf_79, wX_truthOf_95, wX_truthOf_111, wX_truthOf_127, wX_truthOf_132, wX_truthOf_143, wX_truthOf_145, nI_1, i1, i2, c1, c2, mn_b0, mn_b1, ha1, hb1, hz, hz']
        exact K _ _ (by simp [mq_rx, mq_op, mq_b2, hz, hz'])
theorem mx_h22 {post : SX → Prop} {gc pc tm : Int32} {ce rc tk co ln ki : Nat → Int32} {nm : Nat → Int64} {nu pr : Nat → Int32} {fa : Nat → Int64} {p : Nat} (hp : p + 1 < 20) {a b c : Option Int64} (ha : mq_rx (nu p) (nm p) a) (hb : mq_rx (nu (p + 1)) (nm (p + 1)) b)
    (K : ∀ x y, mq_rx x y (mq_op 22 a b c) → post (gc, pc, tm, ce, rc, tk, co, ln, ki, vp_updL nm (p + 1) y, upd nu (p + 1) x, pr, fa)) : wpX_holdUnlessNull post (gc, pc, tm, ce, rc, tk, co, ln, ki, nm, nu, pr, fa) 22 (nI p) (nI (p + 1)) := by
  have i1 : vp_in (nI p) 20 := vp_in_nI (by omega) (by decide)
  have c1 : (nI p).toNatClampNeg = p := nI_clamp (by omega)
  have i2 : vp_in (nI (p + 1)) 20 := vp_in_nI (by omega) (by decide)
  have c2 : (nI (p + 1)).toNatClampNeg = p + 1 := nI_clamp (by omega)
  by_cases hz : nm (p + 1) < nm p
  · have hz' : ¬ nm p ≤ nm (p + 1) := Int64.not_le.mpr hz
    cases a with
    | none =>
      have ha1 : nu p = 1 := ha
      cases b with
      | none =>
        have hb1 : nu (p + 1) = 1 := hb
        simp [wpX_holdUnlessNull, wX_holdUnlessNull_28, wX_holdUnlessNull_33, wX_holdUnlessNull_70, wX_holdUnlessNull_74, wX_holdUnlessNull_75, wpX_numberOf, wpX_truthOf, wX_truthOf_79, wX_truthOf_95, wX_truthOf_111, wX_truthOf_127, wX_truthOf_132, wX_truthOf_143, wX_truthOf_145, nI_1, i1, i2, c1, c2, mn_b0, mn_b1, ha1, hb1, hz, hz']
        exact K _ _ (by simp [mq_rx, mq_op, mq_b2, hz, hz'])
      | some y =>
        obtain ⟨hb1, rfl⟩ := hb
        simp [wpX_holdUnlessNull, wX_holdUnlessNull_28, wX_holdUnlessNull_33, wX_holdUnlessNull_70, wX_holdUnlessNull_74, wX_holdUnlessNull_75, wpX_numberOf, wpX_truthOf, wX_truthOf_79, wX_truthOf_95, wX_truthOf_111, wX_truthOf_127, wX_truthOf_132, wX_truthOf_143, wX_truthOf_145, nI_1, i1, i2, c1, c2, mn_b0, mn_b1, ha1, hb1, hz, hz']
        exact K _ _ (by simp [mq_rx, mq_op, mq_b2, hz, hz'])
    | some x =>
      obtain ⟨ha1, rfl⟩ := ha
      cases b with
      | none =>
        have hb1 : nu (p + 1) = 1 := hb
        simp [wpX_holdUnlessNull, wX_holdUnlessNull_28, wX_holdUnlessNull_33, wX_holdUnlessNull_70, wX_holdUnlessNull_74, wX_holdUnlessNull_75, wpX_numberOf, wpX_truthOf, wX_truthOf_79, wX_truthOf_95, wX_truthOf_111, wX_truthOf_127, wX_truthOf_132, wX_truthOf_143, wX_truthOf_145, nI_1, i1, i2, c1, c2, mn_b0, mn_b1, ha1, hb1, hz, hz']
        exact K _ _ (by simp [mq_rx, mq_op, mq_b2, hz, hz'])
      | some y =>
        obtain ⟨hb1, rfl⟩ := hb
        simp [wpX_holdUnlessNull, wX_holdUnlessNull_28, wX_holdUnlessNull_33, wX_holdUnlessNull_70, wX_holdUnlessNull_74, wX_holdUnlessNull_75, wpX_numberOf, wpX_truthOf, wX_truthOf_79, wX_truthOf_95, wX_truthOf_111, wX_truthOf_127, wX_truthOf_132, wX_truthOf_143, wX_truthOf_145, nI_1, i1, i2, c1, c2, mn_b0, mn_b1, ha1, hb1, hz, hz']
        exact K _ _ (by simp [mq_rx, mq_op, mq_b2, hz, hz'])
  · have hz' : nm p ≤ nm (p + 1) := Int64.not_lt.mp hz
    cases a with
    | none =>
      have ha1 : nu p = 1 := ha
      cases b with
      | none =>
        have hb1 : nu (p + 1) = 1 := hb
        simp [wpX_holdUnlessNull, wX_holdUnlessNull_28, wX_holdUnlessNull_33, wX_holdUnlessNull_70, wX_holdUnlessNull_74, wX_holdUnlessNull_75, wpX_numberOf, wpX_truthOf, wX_truthOf_79, wX_truthOf_95, wX_truthOf_111, wX_truthOf_127, wX_truthOf_132, wX_truthOf_143, wX_truthOf_145, nI_1, i1, i2, c1, c2, mn_b0, mn_b1, ha1, hb1, hz, hz']
        exact K _ _ (by simp [mq_rx, mq_op, mq_b2, hz, hz'])
      | some y =>
        obtain ⟨hb1, rfl⟩ := hb
        simp [wpX_holdUnlessNull, wX_holdUnlessNull_28, wX_holdUnlessNull_33, wX_holdUnlessNull_70, wX_holdUnlessNull_74, wX_holdUnlessNull_75, wpX_numberOf, wpX_truthOf, wX_truthOf_79, wX_truthOf_95, wX_truthOf_111, wX_truthOf_127, wX_truthOf_132, wX_truthOf_143, wX_truthOf_145, nI_1, i1, i2, c1, c2, mn_b0, mn_b1, ha1, hb1, hz, hz']
        exact K _ _ (by simp [mq_rx, mq_op, mq_b2, hz, hz'])
    | some x =>
      obtain ⟨ha1, rfl⟩ := ha
      cases b with
      | none =>
        have hb1 : nu (p + 1) = 1 := hb
        simp [wpX_holdUnlessNull, wX_holdUnlessNull_28, wX_holdUnlessNull_33, wX_holdUnlessNull_70, wX_holdUnlessNull_74, wX_holdUnlessNull_75, wpX_numberOf, wpX_truthOf, wX_truthOf_79, wX_truthOf_95, wX_truthOf_111, wX_truthOf_127, wX_truthOf_132, wX_truthOf_143, wX_truthOf_145, nI_1, i1, i2, c1, c2, mn_b0, mn_b1, ha1, hb1, hz, hz']
        exact K _ _ (by simp [mq_rx, mq_op, mq_b2, hz, hz'])
      | some y =>
        obtain ⟨hb1, rfl⟩ := hb
        simp [wpX_holdUnlessNull, wX_holdUnlessNull_28, wX_holdUnlessNull_33, wX_holdUnlessNull_70, wX_holdUnlessNull_74, wX_holdUnlessNull_75, wpX_numberOf, wpX_truthOf, wX_truthOf_79, wX_truthOf_95, wX_truthOf_111, wX_truthOf_127, wX_truthOf_132, wX_truthOf_143, wX_truthOf_145, nI_1, i1, i2, c1, c2, mn_b0, mn_b1, ha1, hb1, hz, hz']
        exact K _ _ (by simp [mq_rx, mq_op, mq_b2, hz, hz'])
theorem mx_h23 {post : SX → Prop} {gc pc tm : Int32} {ce rc tk co ln ki : Nat → Int32} {nm : Nat → Int64} {nu pr : Nat → Int32} {fa : Nat → Int64} {p : Nat} (hp : p + 1 < 20) {a b c : Option Int64} (ha : mq_rx (nu p) (nm p) a) (hb : mq_rx (nu (p + 1)) (nm (p + 1)) b)
    (K : ∀ x y, mq_rx x y (mq_op 23 a b c) → post (gc, pc, tm, ce, rc, tk, co, ln, ki, vp_updL nm (p + 1) y, upd nu (p + 1) x, pr, fa)) : wpX_holdUnlessNull post (gc, pc, tm, ce, rc, tk, co, ln, ki, nm, nu, pr, fa) 23 (nI p) (nI (p + 1)) := by
  have i1 : vp_in (nI p) 20 := vp_in_nI (by omega) (by decide)
  have c1 : (nI p).toNatClampNeg = p := nI_clamp (by omega)
  have i2 : vp_in (nI (p + 1)) 20 := vp_in_nI (by omega) (by decide)
  have c2 : (nI (p + 1)).toNatClampNeg = p + 1 := nI_clamp (by omega)
  by_cases hz : nm p = nm (p + 1)
  · cases a with
    | none =>
      have ha1 : nu p = 1 := ha
      cases b with
      | none =>
        have hb1 : nu (p + 1) = 1 := hb
        simp [wpX_holdUnlessNull, wX_holdUnlessNull_28, wX_holdUnlessNull_33, wX_holdUnlessNull_70, wX_holdUnlessNull_74, wX_holdUnlessNull_75, wpX_numberOf, wpX_truthOf, wX_truthOf_79, wX_truthOf_95, wX_truthOf_111, wX_truthOf_127, wX_truthOf_132, wX_truthOf_143, wX_truthOf_145, nI_1, i1, i2, c1, c2, mn_b0, mn_b1, ha1, hb1, hz]
        exact K _ _ (by simp [mq_rx, mq_op, mq_b2, hz])
      | some y =>
        obtain ⟨hb1, rfl⟩ := hb
        simp [wpX_holdUnlessNull, wX_holdUnlessNull_28, wX_holdUnlessNull_33, wX_holdUnlessNull_70, wX_holdUnlessNull_74, wX_holdUnlessNull_75, wpX_numberOf, wpX_truthOf, wX_truthOf_79, wX_truthOf_95, wX_truthOf_111, wX_truthOf_127, wX_truthOf_132, wX_truthOf_143, wX_truthOf_145, nI_1, i1, i2, c1, c2, mn_b0, mn_b1, ha1, hb1, hz]
        exact K _ _ (by simp [mq_rx, mq_op, mq_b2, hz])
    | some x =>
      obtain ⟨ha1, rfl⟩ := ha
      cases b with
      | none =>
        have hb1 : nu (p + 1) = 1 := hb
        simp [wpX_holdUnlessNull, wX_holdUnlessNull_28, wX_holdUnlessNull_33, wX_holdUnlessNull_70, wX_holdUnlessNull_74, wX_holdUnlessNull_75, wpX_numberOf, wpX_truthOf, wX_truthOf_79, wX_truthOf_95, wX_truthOf_111, wX_truthOf_127, wX_truthOf_132, wX_truthOf_143, wX_truthOf_145, nI_1, i1, i2, c1, c2, mn_b0, mn_b1, ha1, hb1, hz]
        exact K _ _ (by simp [mq_rx, mq_op, mq_b2, hz])
      | some y =>
        obtain ⟨hb1, rfl⟩ := hb
        simp [wpX_holdUnlessNull, wX_holdUnlessNull_28, wX_holdUnlessNull_33, wX_holdUnlessNull_70, wX_holdUnlessNull_74, wX_holdUnlessNull_75, wpX_numberOf, wpX_truthOf, wX_truthOf_79, wX_truthOf_95, wX_truthOf_111, wX_truthOf_127, wX_truthOf_132, wX_truthOf_143, wX_truthOf_145, nI_1, i1, i2, c1, c2, mn_b0, mn_b1, ha1, hb1, hz]
        exact K _ _ (by simp [mq_rx, mq_op, mq_b2, hz])
  · cases a with
    | none =>
      have ha1 : nu p = 1 := ha
      cases b with
      | none =>
        have hb1 : nu (p + 1) = 1 := hb
        simp [wpX_holdUnlessNull, wX_holdUnlessNull_28, wX_holdUnlessNull_33, wX_holdUnlessNull_70, wX_holdUnlessNull_74, wX_holdUnlessNull_75, wpX_numberOf, wpX_truthOf, wX_truthOf_79, wX_truthOf_95, wX_truthOf_111, wX_truthOf_127, wX_truthOf_132, wX_truthOf_143, wX_truthOf_145, nI_1, i1, i2, c1, c2, mn_b0, mn_b1, ha1, hb1, hz]
        exact K _ _ (by simp [mq_rx, mq_op, mq_b2, hz])
      | some y =>
        obtain ⟨hb1, rfl⟩ := hb
        simp [wpX_holdUnlessNull, wX_holdUnlessNull_28, wX_holdUnlessNull_33, wX_holdUnlessNull_70, wX_holdUnlessNull_74, wX_holdUnlessNull_75, wpX_numberOf, wpX_truthOf, wX_truthOf_79, wX_truthOf_95, wX_truthOf_111, wX_truthOf_127, wX_truthOf_132, wX_truthOf_143, wX_truthOf_145, nI_1, i1, i2, c1, c2, mn_b0, mn_b1, ha1, hb1, hz]
        exact K _ _ (by simp [mq_rx, mq_op, mq_b2, hz])
    | some x =>
      obtain ⟨ha1, rfl⟩ := ha
      cases b with
      | none =>
        have hb1 : nu (p + 1) = 1 := hb
        simp [wpX_holdUnlessNull, wX_holdUnlessNull_28, wX_holdUnlessNull_33, wX_holdUnlessNull_70, wX_holdUnlessNull_74, wX_holdUnlessNull_75, wpX_numberOf, wpX_truthOf, wX_truthOf_79, wX_truthOf_95, wX_truthOf_111, wX_truthOf_127, wX_truthOf_132, wX_truthOf_143, wX_truthOf_145, nI_1, i1, i2, c1, c2, mn_b0, mn_b1, ha1, hb1, hz]
        exact K _ _ (by simp [mq_rx, mq_op, mq_b2, hz])
      | some y =>
        obtain ⟨hb1, rfl⟩ := hb
        simp [wpX_holdUnlessNull, wX_holdUnlessNull_28, wX_holdUnlessNull_33, wX_holdUnlessNull_70, wX_holdUnlessNull_74, wX_holdUnlessNull_75, wpX_numberOf, wpX_truthOf, wX_truthOf_79, wX_truthOf_95, wX_truthOf_111, wX_truthOf_127, wX_truthOf_132, wX_truthOf_143, wX_truthOf_145, nI_1, i1, i2, c1, c2, mn_b0, mn_b1, ha1, hb1, hz]
        exact K _ _ (by simp [mq_rx, mq_op, mq_b2, hz])
theorem mx_h15 {post : SX → Prop} {gc pc tm : Int32} {ce rc tk co ln ki : Nat → Int32} {nm : Nat → Int64} {nu pr : Nat → Int32} {fa : Nat → Int64} {p : Nat} (hp : p < 20) {a b c : Option Int64} (ha : mq_rx (nu p) (nm p) a)
    (K : ∀ x y, mq_rx x y (mq_op 15 a b c) → post (gc, pc, tm, ce, rc, tk, co, ln, ki, vp_updL nm (p) y, upd nu (p) x, pr, fa)) : wpX_holdUnlessNull post (gc, pc, tm, ce, rc, tk, co, ln, ki, nm, nu, pr, fa) 15 (nI p) (nI (p)) := by
  have i1 : vp_in (nI p) 20 := vp_in_nI (by omega) (by decide)
  have c1 : (nI p).toNatClampNeg = p := nI_clamp (by omega)
  cases a with
  | none =>
    have ha1 : nu p = 1 := ha
    simp [wpX_holdUnlessNull, wX_holdUnlessNull_28, wX_holdUnlessNull_33, wX_holdUnlessNull_70, wX_holdUnlessNull_74, wX_holdUnlessNull_75, wpX_numberOf, wpX_truthOf, wX_truthOf_79, wX_truthOf_95, wX_truthOf_111, wX_truthOf_127, wX_truthOf_132, wX_truthOf_143, wX_truthOf_145, nI_1, i1, c1, mn_b0, mn_b1, ha1]
    exact K _ _ (by simp [mq_rx, mq_op, mq_b2])
  | some x =>
    obtain ⟨ha1, rfl⟩ := ha
    simp [wpX_holdUnlessNull, wX_holdUnlessNull_28, wX_holdUnlessNull_33, wX_holdUnlessNull_70, wX_holdUnlessNull_74, wX_holdUnlessNull_75, wpX_numberOf, wpX_truthOf, wX_truthOf_79, wX_truthOf_95, wX_truthOf_111, wX_truthOf_127, wX_truthOf_132, wX_truthOf_143, wX_truthOf_145, nI_1, i1, c1, mn_b0, mn_b1, ha1]
    exact K _ _ (by simp [mq_rx, mq_op, mq_b2])
theorem mx_h32 {post : SX → Prop} {gc pc tm : Int32} {ce rc tk co ln ki : Nat → Int32} {nm : Nat → Int64} {nu pr : Nat → Int32} {fa : Nat → Int64} {p : Nat} (hp : p < 20) {a b c : Option Int64} (ha : mq_rx (nu p) (nm p) a)
    (K : ∀ x y, mq_rx x y (mq_op 32 a b c) → post (gc, pc, tm, ce, rc, tk, co, ln, ki, vp_updL nm (p) y, upd nu (p) x, pr, fa)) : wpX_holdUnlessNull post (gc, pc, tm, ce, rc, tk, co, ln, ki, nm, nu, pr, fa) 32 (nI p) (nI (p)) := by
  have i1 : vp_in (nI p) 20 := vp_in_nI (by omega) (by decide)
  have c1 : (nI p).toNatClampNeg = p := nI_clamp (by omega)
  by_cases hz : nm p = 0
  · cases a with
    | none =>
      have ha1 : nu p = 1 := ha
      simp [wpX_holdUnlessNull, wX_holdUnlessNull_28, wX_holdUnlessNull_33, wX_holdUnlessNull_70, wX_holdUnlessNull_74, wX_holdUnlessNull_75, wpX_numberOf, wpX_truthOf, wX_truthOf_79, wX_truthOf_95, wX_truthOf_111, wX_truthOf_127, wX_truthOf_132, wX_truthOf_143, wX_truthOf_145, nI_1, i1, c1, mn_b0, mn_b1, ha1, hz]
      exact K _ _ (by simp [mq_rx, mq_op, mq_b2, hz])
    | some x =>
      obtain ⟨ha1, rfl⟩ := ha
      simp [wpX_holdUnlessNull, wX_holdUnlessNull_28, wX_holdUnlessNull_33, wX_holdUnlessNull_70, wX_holdUnlessNull_74, wX_holdUnlessNull_75, wpX_numberOf, wpX_truthOf, wX_truthOf_79, wX_truthOf_95, wX_truthOf_111, wX_truthOf_127, wX_truthOf_132, wX_truthOf_143, wX_truthOf_145, nI_1, i1, c1, mn_b0, mn_b1, ha1, hz]
      exact K _ _ (by simp [mq_rx, mq_op, mq_b2, hz])
  · cases a with
    | none =>
      have ha1 : nu p = 1 := ha
      simp [wpX_holdUnlessNull, wX_holdUnlessNull_28, wX_holdUnlessNull_33, wX_holdUnlessNull_70, wX_holdUnlessNull_74, wX_holdUnlessNull_75, wpX_numberOf, wpX_truthOf, wX_truthOf_79, wX_truthOf_95, wX_truthOf_111, wX_truthOf_127, wX_truthOf_132, wX_truthOf_143, wX_truthOf_145, nI_1, i1, c1, mn_b0, mn_b1, ha1, hz]
      exact K _ _ (by simp [mq_rx, mq_op, mq_b2, hz])
    | some x =>
      obtain ⟨ha1, rfl⟩ := ha
      simp [wpX_holdUnlessNull, wX_holdUnlessNull_28, wX_holdUnlessNull_33, wX_holdUnlessNull_70, wX_holdUnlessNull_74, wX_holdUnlessNull_75, wpX_numberOf, wpX_truthOf, wX_truthOf_79, wX_truthOf_95, wX_truthOf_111, wX_truthOf_127, wX_truthOf_132, wX_truthOf_143, wX_truthOf_145, nI_1, i1, c1, mn_b0, mn_b1, ha1, hz]
      exact K _ _ (by simp [mq_rx, mq_op, mq_b2, hz])
theorem mx_h33 {post : SX → Prop} {gc pc tm : Int32} {ce rc tk co ln ki : Nat → Int32} {nm : Nat → Int64} {nu pr : Nat → Int32} {fa : Nat → Int64} {p : Nat} (hp : p < 20) {a b c : Option Int64} (ha : mq_rx (nu p) (nm p) a)
    (K : ∀ x y, mq_rx x y (mq_op 33 a b c) → post (gc, pc, tm, ce, rc, tk, co, ln, ki, vp_updL nm (p) y, upd nu (p) x, pr, fa)) : wpX_holdDespiteNull post (gc, pc, tm, ce, rc, tk, co, ln, ki, nm, nu, pr, fa) 33 (nI p) (nI (p)) := by
  have i1 : vp_in (nI p) 20 := vp_in_nI (by omega) (by decide)
  have c1 : (nI p).toNatClampNeg = p := nI_clamp (by omega)
  cases a with
  | none =>
    have ha1 : nu p = 1 := ha
    simp [wpX_holdDespiteNull, wX_holdDespiteNull_56, wX_holdDespiteNull_85, wX_holdDespiteNull_86, wX_holdDespiteNull_102, wX_holdDespiteNull_104, nI_1, i1, c1, mn_b0, mn_b1, ha1]
    exact K _ _ (by simp [mq_rx, mq_op, mq_b2])
  | some x =>
    obtain ⟨ha1, rfl⟩ := ha
    simp [wpX_holdDespiteNull, wX_holdDespiteNull_56, wX_holdDespiteNull_85, wX_holdDespiteNull_86, wX_holdDespiteNull_102, wX_holdDespiteNull_104, nI_1, i1, c1, mn_b0, mn_b1, ha1]
    exact K _ _ (by simp [mq_rx, mq_op, mq_b2])
theorem mx_h16 {post : SX → Prop} {gc pc tm : Int32} {ce rc tk co ln ki : Nat → Int32} {nm : Nat → Int64} {nu pr : Nat → Int32} {fa : Nat → Int64} {p : Nat} (hp : p + 1 < 20) {a b c : Option Int64} (ha : mq_rx (nu p) (nm p) a) (hb : mq_rx (nu (p + 1)) (nm (p + 1)) b)
    (K : ∀ x y, mq_rx x y (mq_op 16 a b c) → post (gc, pc, tm, ce, rc, tk, co, ln, ki, vp_updL nm (p + 1) y, upd nu (p + 1) x, pr, fa)) : wpX_holdDespiteNull post (gc, pc, tm, ce, rc, tk, co, ln, ki, nm, nu, pr, fa) 16 (nI p) (nI (p + 1)) := by
  have i1 : vp_in (nI p) 20 := vp_in_nI (by omega) (by decide)
  have c1 : (nI p).toNatClampNeg = p := nI_clamp (by omega)
  have i2 : vp_in (nI (p + 1)) 20 := vp_in_nI (by omega) (by decide)
  have c2 : (nI (p + 1)).toNatClampNeg = p + 1 := nI_clamp (by omega)
  cases a with
  | none =>
    have ha1 : nu p = 1 := ha
    cases b with
    | none =>
      have hb1 : nu (p + 1) = 1 := hb
      simp [wpX_holdDespiteNull, wX_holdDespiteNull_56, wX_holdDespiteNull_85, wX_holdDespiteNull_86, wX_holdDespiteNull_102, wX_holdDespiteNull_104, nI_1, i1, i2, c1, c2, mn_b0, mn_b1, ha1, hb1]
      exact K _ _ (by simp [mq_rx, mq_op, mq_b2])
    | some y =>
      obtain ⟨hb1, rfl⟩ := hb
      simp [wpX_holdDespiteNull, wX_holdDespiteNull_56, wX_holdDespiteNull_85, wX_holdDespiteNull_86, wX_holdDespiteNull_102, wX_holdDespiteNull_104, nI_1, i1, i2, c1, c2, mn_b0, mn_b1, ha1, hb1]
      exact K _ _ (by simp [mq_rx, mq_op, mq_b2])
  | some x =>
    obtain ⟨ha1, rfl⟩ := ha
    cases b with
    | none =>
      have hb1 : nu (p + 1) = 1 := hb
      simp [wpX_holdDespiteNull, wX_holdDespiteNull_56, wX_holdDespiteNull_85, wX_holdDespiteNull_86, wX_holdDespiteNull_102, wX_holdDespiteNull_104, nI_1, i1, i2, c1, c2, mn_b0, mn_b1, ha1, hb1]
      exact K _ _ (by simp [mq_rx, mq_op, mq_b2])
    | some y =>
      obtain ⟨hb1, rfl⟩ := hb
      simp [wpX_holdDespiteNull, wX_holdDespiteNull_56, wX_holdDespiteNull_85, wX_holdDespiteNull_86, wX_holdDespiteNull_102, wX_holdDespiteNull_104, nI_1, i1, i2, c1, c2, mn_b0, mn_b1, ha1, hb1]
      exact K _ _ (by simp [mq_rx, mq_op, mq_b2])
theorem mx_h34 {post : SX → Prop} {gc pc tm : Int32} {ce rc tk co ln ki : Nat → Int32} {nm : Nat → Int64} {nu pr : Nat → Int32} {fa : Nat → Int64} {p : Nat} (hp : p + 2 < 20) {a b c : Option Int64} (ha : mq_rx (nu p) (nm p) a) (hb : mq_rx (nu (p + 1)) (nm (p + 1)) b) (hc : mq_rx (nu (p + 2)) (nm (p + 2)) c)
    (K : ∀ x y, mq_rx x y (mq_op 34 a b c) → post (gc, pc, tm, ce, rc, tk, co, ln, ki, vp_updL nm (p + 2) y, upd nu (p + 2) x, pr, fa)) : wpX_holdDespiteNull post (gc, pc, tm, ce, rc, tk, co, ln, ki, nm, nu, pr, fa) 34 (nI p) (nI (p + 2)) := by
  have i1 : vp_in (nI p) 20 := vp_in_nI (by omega) (by decide)
  have c1 : (nI p).toNatClampNeg = p := nI_clamp (by omega)
  have i2 : vp_in (nI (p + 1)) 20 := vp_in_nI (by omega) (by decide)
  have c2 : (nI (p + 1)).toNatClampNeg = p + 1 := nI_clamp (by omega)
  have i3 : vp_in (nI (p + 2)) 20 := vp_in_nI (by omega) (by decide)
  have c3 : (nI (p + 2)).toNatClampNeg = p + 2 := nI_clamp (by omega)
  have mi_2 : nI p + 2 = nI (p + 2) := mi_a p 2
  by_cases hx : nm p = 1
  · cases a with
    | none =>
      have ha1 : nu p = 1 := ha
      cases b with
      | none =>
        have hb1 : nu (p + 1) = 1 := hb
        cases c with
        | none =>
          have hc1 : nu (p + 2) = 1 := hc
          simp [wpX_holdDespiteNull, wX_holdDespiteNull_56, wX_holdDespiteNull_85, wX_holdDespiteNull_86, wX_holdDespiteNull_102, wX_holdDespiteNull_104, nI_1, mi_2, i1, i2, i3, c1, c2, c3, mn_b0, mn_b1, ha1, hb1, hc1, hx]
          exact K _ _ (by simp [mq_rx, mq_op, mq_b2, hx])
        | some z =>
          obtain ⟨hc1, rfl⟩ := hc
          simp [wpX_holdDespiteNull, wX_holdDespiteNull_56, wX_holdDespiteNull_85, wX_holdDespiteNull_86, wX_holdDespiteNull_102, wX_holdDespiteNull_104, nI_1, mi_2, i1, i2, i3, c1, c2, c3, mn_b0, mn_b1, ha1, hb1, hc1, hx]
          exact K _ _ (by simp [mq_rx, mq_op, mq_b2, hx])
      | some y =>
        obtain ⟨hb1, rfl⟩ := hb
        cases c with
        | none =>
          have hc1 : nu (p + 2) = 1 := hc
          simp [wpX_holdDespiteNull, wX_holdDespiteNull_56, wX_holdDespiteNull_85, wX_holdDespiteNull_86, wX_holdDespiteNull_102, wX_holdDespiteNull_104, nI_1, mi_2, i1, i2, i3, c1, c2, c3, mn_b0, mn_b1, ha1, hb1, hc1, hx]
          exact K _ _ (by simp [mq_rx, mq_op, mq_b2, hx])
        | some z =>
          obtain ⟨hc1, rfl⟩ := hc
          simp [wpX_holdDespiteNull, wX_holdDespiteNull_56, wX_holdDespiteNull_85, wX_holdDespiteNull_86, wX_holdDespiteNull_102, wX_holdDespiteNull_104, nI_1, mi_2, i1, i2, i3, c1, c2, c3, mn_b0, mn_b1, ha1, hb1, hc1, hx]
          exact K _ _ (by simp [mq_rx, mq_op, mq_b2, hx])
    | some x =>
      obtain ⟨ha1, rfl⟩ := ha
      cases b with
      | none =>
        have hb1 : nu (p + 1) = 1 := hb
        cases c with
        | none =>
          have hc1 : nu (p + 2) = 1 := hc
          simp [wpX_holdDespiteNull, wX_holdDespiteNull_56, wX_holdDespiteNull_85, wX_holdDespiteNull_86, wX_holdDespiteNull_102, wX_holdDespiteNull_104, nI_1, mi_2, i1, i2, i3, c1, c2, c3, mn_b0, mn_b1, ha1, hb1, hc1, hx]
          exact K _ _ (by simp [mq_rx, mq_op, mq_b2, hx])
        | some z =>
          obtain ⟨hc1, rfl⟩ := hc
          simp [wpX_holdDespiteNull, wX_holdDespiteNull_56, wX_holdDespiteNull_85, wX_holdDespiteNull_86, wX_holdDespiteNull_102, wX_holdDespiteNull_104, nI_1, mi_2, i1, i2, i3, c1, c2, c3, mn_b0, mn_b1, ha1, hb1, hc1, hx]
          exact K _ _ (by simp [mq_rx, mq_op, mq_b2, hx])
      | some y =>
        obtain ⟨hb1, rfl⟩ := hb
        cases c with
        | none =>
          have hc1 : nu (p + 2) = 1 := hc
          simp [wpX_holdDespiteNull, wX_holdDespiteNull_56, wX_holdDespiteNull_85, wX_holdDespiteNull_86, wX_holdDespiteNull_102, wX_holdDespiteNull_104, nI_1, mi_2, i1, i2, i3, c1, c2, c3, mn_b0, mn_b1, ha1, hb1, hc1, hx]
          exact K _ _ (by simp [mq_rx, mq_op, mq_b2, hx])
        | some z =>
          obtain ⟨hc1, rfl⟩ := hc
          simp [wpX_holdDespiteNull, wX_holdDespiteNull_56, wX_holdDespiteNull_85, wX_holdDespiteNull_86, wX_holdDespiteNull_102, wX_holdDespiteNull_104, nI_1, mi_2, i1, i2, i3, c1, c2, c3, mn_b0, mn_b1, ha1, hb1, hc1, hx]
          exact K _ _ (by simp [mq_rx, mq_op, mq_b2, hx])
  · cases a with
    | none =>
      have ha1 : nu p = 1 := ha
      cases b with
      | none =>
        have hb1 : nu (p + 1) = 1 := hb
        cases c with
        | none =>
          have hc1 : nu (p + 2) = 1 := hc
          simp [wpX_holdDespiteNull, wX_holdDespiteNull_56, wX_holdDespiteNull_85, wX_holdDespiteNull_86, wX_holdDespiteNull_102, wX_holdDespiteNull_104, nI_1, mi_2, i1, i2, i3, c1, c2, c3, mn_b0, mn_b1, ha1, hb1, hc1, hx]
          exact K _ _ (by simp [mq_rx, mq_op, mq_b2, hx])
        | some z =>
          obtain ⟨hc1, rfl⟩ := hc
          simp [wpX_holdDespiteNull, wX_holdDespiteNull_56, wX_holdDespiteNull_85, wX_holdDespiteNull_86, wX_holdDespiteNull_102, wX_holdDespiteNull_104, nI_1, mi_2, i1, i2, i3, c1, c2, c3, mn_b0, mn_b1, ha1, hb1, hc1, hx]
          exact K _ _ (by simp [mq_rx, mq_op, mq_b2, hx])
      | some y =>
        obtain ⟨hb1, rfl⟩ := hb
        cases c with
        | none =>
          have hc1 : nu (p + 2) = 1 := hc
          simp [wpX_holdDespiteNull, wX_holdDespiteNull_56, wX_holdDespiteNull_85, wX_holdDespiteNull_86, wX_holdDespiteNull_102, wX_holdDespiteNull_104, nI_1, mi_2, i1, i2, i3, c1, c2, c3, mn_b0, mn_b1, ha1, hb1, hc1, hx]
          exact K _ _ (by simp [mq_rx, mq_op, mq_b2, hx])
        | some z =>
          obtain ⟨hc1, rfl⟩ := hc
          simp [wpX_holdDespiteNull, wX_holdDespiteNull_56, wX_holdDespiteNull_85, wX_holdDespiteNull_86, wX_holdDespiteNull_102, wX_holdDespiteNull_104, nI_1, mi_2, i1, i2, i3, c1, c2, c3, mn_b0, mn_b1, ha1, hb1, hc1, hx]
          exact K _ _ (by simp [mq_rx, mq_op, mq_b2, hx])
    | some x =>
      obtain ⟨ha1, rfl⟩ := ha
      cases b with
      | none =>
        have hb1 : nu (p + 1) = 1 := hb
        cases c with
        | none =>
          have hc1 : nu (p + 2) = 1 := hc
          simp [wpX_holdDespiteNull, wX_holdDespiteNull_56, wX_holdDespiteNull_85, wX_holdDespiteNull_86, wX_holdDespiteNull_102, wX_holdDespiteNull_104, nI_1, mi_2, i1, i2, i3, c1, c2, c3, mn_b0, mn_b1, ha1, hb1, hc1, hx]
          exact K _ _ (by simp [mq_rx, mq_op, mq_b2, hx])
        | some z =>
          obtain ⟨hc1, rfl⟩ := hc
          simp [wpX_holdDespiteNull, wX_holdDespiteNull_56, wX_holdDespiteNull_85, wX_holdDespiteNull_86, wX_holdDespiteNull_102, wX_holdDespiteNull_104, nI_1, mi_2, i1, i2, i3, c1, c2, c3, mn_b0, mn_b1, ha1, hb1, hc1, hx]
          exact K _ _ (by simp [mq_rx, mq_op, mq_b2, hx])
      | some y =>
        obtain ⟨hb1, rfl⟩ := hb
        cases c with
        | none =>
          have hc1 : nu (p + 2) = 1 := hc
          simp [wpX_holdDespiteNull, wX_holdDespiteNull_56, wX_holdDespiteNull_85, wX_holdDespiteNull_86, wX_holdDespiteNull_102, wX_holdDespiteNull_104, nI_1, mi_2, i1, i2, i3, c1, c2, c3, mn_b0, mn_b1, ha1, hb1, hc1, hx]
          exact K _ _ (by simp [mq_rx, mq_op, mq_b2, hx])
        | some z =>
          obtain ⟨hc1, rfl⟩ := hc
          simp [wpX_holdDespiteNull, wX_holdDespiteNull_56, wX_holdDespiteNull_85, wX_holdDespiteNull_86, wX_holdDespiteNull_102, wX_holdDespiteNull_104, nI_1, mi_2, i1, i2, i3, c1, c2, c3, mn_b0, mn_b1, ha1, hb1, hc1, hx]
          exact K _ _ (by simp [mq_rx, mq_op, mq_b2, hx])
end MQ11
end
section
section MQ12
theorem mq_opc {t : Int32} (h : t ∈ mq_tk) (h4 : ¬ t = 40) (h5 : ¬ t ≤ 5) : t = 10 ∨ t = 11 ∨ t = 12 ∨ t = 13 ∨ t = 14 ∨ t = 15 ∨ t = 16 ∨ t = 20 ∨ t = 21 ∨ t = 22 ∨ t = 23 ∨ t = 30 ∨ t = 31 ∨ t = 32 ∨ t = 33 ∨ t = 34 := by
  revert t
  decide +kernel
theorem mq_tk5 {t : Int32} (h : t ∈ mq_tk) (h5 : t ≤ 5) : ∃ c : Nat, c < 6 ∧ t = nI c := by
  obtain ⟨j, hj, rfl⟩ := nI_of (Int32.not_lt.mpr (mq_tk_pos h))
  exact ⟨j, Nat.lt_succ_of_le ((nI_leI (b := 5) hj (by decide)).mp h5), rfl⟩
theorem mx_ev12 {post : SX → Prop} {gc pc tm : Int32} {ce rc tk co ln ki : Nat → Int32} {pr : Nat → Int32} {fa : Nat → Int64} {V W P : Nat → Int32} {e len : Nat} (he : e < 4) (hl : len ≤ 20) (ht : ∀ i, i < len → tk (20 * e + i) = V i ∧ co (20 * e + i) = W i) (hV : ∀ i, i < len → V i ∈ mq_tk) (hP : ∀ c, c < 6 → pr c = P c) (hok : ∀ d, d < len → mq_ok V len d)
    (K : ∀ nm nu, mq_SX nu nm (mq_h V len len) (mq_v V W P len len) → post (gc, pc, tm, ce, rc, tk, co, ln, ki, nm, nu, pr, fa)) :
    ∀ r d, r + d = len → ∀ nm nu, mq_SX nu nm (mq_h V len d) (mq_v V W P len d) → wX_evaluate_12 post (nI e) (r + 1) (nI (20 - mq_h V len d)) (nI r + (-1)) gc pc tm ce rc tk co ln ki nm nu pr fa := by
  intro r
  induction r with
  | zero =>
    intro d hd nm nu HS
    have hd : d = len := by omega
    subst hd
    exact br_t (by rw [mn_0m]; decide) (K nm nu HS)
  | succ r ih =>
    intro d hd nm nu HS
    have er : len - 1 - d = r := by omega
    have hle := mq_h_le V len d
    have ha3 := mq_ar3 (V r)
    have hokd := hok d (by omega)
    unfold mq_ok at hokd
    rw [er] at hokd
    have ha := hokd.1
    have hs : mq_h V len (d + 1) = mq_h V len d - mq_ar (V r) + 1 := by rw [mq_h_s, er]
    have hvs : mq_v V W P len (d + 1) = fun j => if j = mq_h V len d - mq_ar (V r) then mq_val (V r) (W r) P (mq_v V W P len d (mq_h V len d - 1)) (mq_v V W P len d (mq_h V len d - 2)) (mq_v V W P len d (mq_h V len d - 3)) else mq_v V W P len d j := by
      funext j
      show (if j = mq_h V len d - mq_ar (V (len - 1 - d)) then mq_val (V (len - 1 - d)) (W (len - 1 - d)) P _ _ _ else mq_v V W P len d j) = _
      rw [er]
    have hpush : ∀ x y, mq_rx x y (mq_val (V r) (W r) P (mq_v V W P len d (mq_h V len d - 1)) (mq_v V W P len d (mq_h V len d - 2)) (mq_v V W P len d (mq_h V len d - 3))) →
        wX_evaluate_12 post (nI e) (r + 1) (nI (19 - (mq_h V len d - mq_ar (V r)))) (nI r + (-1)) gc pc tm ce rc tk co ln ki (vp_updL nm (19 - (mq_h V len d - mq_ar (V r))) y) (upd nu (19 - (mq_h V len d - mq_ar (V r))) x) pr fa := by
      intro x y hxy
      have h2 := ih (d + 1) (by omega) (vp_updL nm (19 - (mq_h V len d - mq_ar (V r))) y) (upd nu (19 - (mq_h V len d - mq_ar (V r))) x) (by rw [hs, hvs]; exact mq_sx_p HS (by omega) (by omega) hxy)
      rw [hs] at h2
      have e3 : 20 - (mq_h V len d - mq_ar (V r) + 1) = 19 - (mq_h V len d - mq_ar (V r)) := by omega
      rw [e3] at h2
      exact h2
    rw [pk_m1]
    refine br_f (nI_pos (by omega)) ?_
    have htr := ht r (by omega)
    rw [mi_20, nI_clamp (by omega), Nat.mul_comm e 20, htr.1, htr.2]
    refine ⟨vp_in_nI (by omega) (by decide), nm_e ?_⟩
    have hVr := hV r (by omega)
    generalize mq_v V W P len d = v at HS hpush
    generalize mq_h V len d = h at HS hpush hle ha
    generalize V r = t at hpush hVr ha ha3
    generalize W r = cc at hpush
    refine mx_oc ?_
    obtain ⟨p, hp⟩ : ∃ p, 20 - h = p := ⟨_, rfl⟩
    obtain ⟨o, ho⟩ : ∃ o, 19 - (h - mq_ar t) = o := ⟨_, rfl⟩
    rw [ho] at hpush
    rw [hp]
    have e4 : nI p + nI (mq_ar t) - 1 = nI o := by
      rw [nI_add, mn_s (by omega)]
      exact congrArg nI (by omega)
    refine nm_r e4 ?_
    by_cases c40 : t = 40
    · refine br_t c40 ⟨vp_in_nI (by omega) (by decide), ?_⟩
      refine mx_hcell (by omega) ?_
      intro x y hxy
      exact nm_e (hpush x y (by unfold mq_val; rw [if_pos c40]; exact hxy))
    · refine br_f c40 ?_
      by_cases c5 : t ≤ 5
      · have e0 : mq_ar t = 0 := by unfold mq_ar; rw [if_pos (Or.inl c5)]
        obtain ⟨c, hc, ec⟩ := mq_tk5 hVr c5
        refine br_t (by rw [e0]; rfl) ?_
        refine ⟨by rw [ec]; exact vp_in_nI hc (by decide), ?_⟩
        refine mx_hcell (by omega) ?_
        intro x y hxy
        refine nm_e (hpush x y ?_)
        unfold mq_val
        rw [if_neg c40, if_pos c5]
        rw [ec, nI_clamp (by omega), hP c hc] at hxy
        rw [ec, nI_clamp (by omega)]
        exact hxy
      · have hval : ∀ x y z, mq_val t cc P x y z = mq_op t x y z := by
          intro x y z
          unfold mq_val
          rw [if_neg c40, if_neg c5]
        have a1 : 1 ≤ h → mq_rx (nu p) (nm p) (v (h - 1)) := by
          intro h1
          have := HS (h - 1) (by omega)
          have e5 : 19 - (h - 1) = p := by omega
          rw [e5] at this
          exact this
        have a2 : 2 ≤ h → mq_rx (nu (p + 1)) (nm (p + 1)) (v (h - 2)) := by
          intro h1
          have := HS (h - 2) (by omega)
          have e5 : 19 - (h - 2) = p + 1 := by omega
          rw [e5] at this
          exact this
        have a3 : 3 ≤ h → mq_rx (nu (p + 2)) (nm (p + 2)) (v (h - 3)) := by
          intro h1
          have := HS (h - 3) (by omega)
          have e5 : 19 - (h - 3) = p + 2 := by omega
          rw [e5] at this
          exact this
        rcases mq_opc hVr c40 c5 with rfl | rfl | rfl | rfl | rfl | rfl | rfl | rfl | rfl | rfl | rfl | rfl | rfl | rfl | rfl | rfl
        · have e2 : mq_ar 10 = 2 := by decide
          rw [e2] at ha ho
          have ho2 : o = p + 1 := by omega
          subst ho2
          refine br_f (by rw [e2]; decide) ?_
          refine br_f (by decide) ?_
          refine br_f (by decide) ?_
          refine br_f (by decide) ?_
          refine br_f (by decide) ?_
          refine br_f (by decide) ?_
          refine mx_h10 (c := v (h - 3)) (by omega) (a1 (by omega)) (a2 (by omega)) ?_
          intro x y hxy
          exact nm_e (hpush x y (by rw [hval]; exact hxy))
        · have e2 : mq_ar 11 = 2 := by decide
          rw [e2] at ha ho
          have ho2 : o = p + 1 := by omega
          subst ho2
          refine br_f (by rw [e2]; decide) ?_
          refine br_f (by decide) ?_
          refine br_f (by decide) ?_
          refine br_f (by decide) ?_
          refine br_f (by decide) ?_
          refine br_f (by decide) ?_
          refine mx_h11 (c := v (h - 3)) (by omega) (a1 (by omega)) (a2 (by omega)) ?_
          intro x y hxy
          exact nm_e (hpush x y (by rw [hval]; exact hxy))
        · have e2 : mq_ar 12 = 2 := by decide
          rw [e2] at ha ho
          have ho2 : o = p + 1 := by omega
          subst ho2
          refine br_f (by rw [e2]; decide) ?_
          refine br_f (by decide) ?_
          refine br_f (by decide) ?_
          refine br_f (by decide) ?_
          refine br_f (by decide) ?_
          refine br_f (by decide) ?_
          refine mx_h12 (c := v (h - 3)) (by omega) (a1 (by omega)) (a2 (by omega)) ?_
          intro x y hxy
          exact nm_e (hpush x y (by rw [hval]; exact hxy))
        · have e2 : mq_ar 13 = 2 := by decide
          rw [e2] at ha ho
          have ho2 : o = p + 1 := by omega
          subst ho2
          refine br_f (by rw [e2]; decide) ?_
          refine br_f (by decide) ?_
          refine br_f (by decide) ?_
          refine br_f (by decide) ?_
          refine br_f (by decide) ?_
          refine br_f (by decide) ?_
          refine mx_h13 (c := v (h - 3)) (by omega) (a1 (by omega)) (a2 (by omega)) ?_
          intro x y hxy
          exact nm_e (hpush x y (by rw [hval]; exact hxy))
        · have e2 : mq_ar 14 = 2 := by decide
          rw [e2] at ha ho
          have ho2 : o = p + 1 := by omega
          subst ho2
          refine br_f (by rw [e2]; decide) ?_
          refine br_f (by decide) ?_
          refine br_f (by decide) ?_
          refine br_f (by decide) ?_
          refine br_f (by decide) ?_
          refine br_f (by decide) ?_
          refine mx_h14 (c := v (h - 3)) (by omega) (a1 (by omega)) (a2 (by omega)) ?_
          intro x y hxy
          exact nm_e (hpush x y (by rw [hval]; exact hxy))
        · have e2 : mq_ar 15 = 1 := by decide
          rw [e2] at ha ho
          have ho2 : o = p := by omega
          subst ho2
          refine br_f (by rw [e2]; decide) ?_
          refine br_f (by decide) ?_
          refine br_f (by decide) ?_
          refine br_f (by decide) ?_
          refine br_f (by decide) ?_
          refine br_f (by decide) ?_
          refine mx_h15 (b := v (h - 2)) (c := v (h - 3)) (by omega) (a1 (by omega)) ?_
          intro x y hxy
          exact nm_e (hpush x y (by rw [hval]; exact hxy))
        · have e2 : mq_ar 16 = 2 := by decide
          rw [e2] at ha ho
          have ho2 : o = p + 1 := by omega
          subst ho2
          refine br_f (by rw [e2]; decide) ?_
          refine br_f (by decide) ?_
          refine br_f (by decide) ?_
          refine br_t rfl ?_
          unfold wX_evaluate_140
          refine mx_h16 (c := v (h - 3)) (by omega) (a1 (by omega)) (a2 (by omega)) ?_
          intro x y hxy
          exact nm_e (hpush x y (by rw [hval]; exact hxy))
        · have e2 : mq_ar 20 = 2 := by decide
          rw [e2] at ha ho
          have ho2 : o = p + 1 := by omega
          subst ho2
          refine br_f (by rw [e2]; decide) ?_
          refine br_f (by decide) ?_
          refine br_f (by decide) ?_
          refine br_f (by decide) ?_
          refine br_f (by decide) ?_
          refine br_f (by decide) ?_
          refine mx_h20 (c := v (h - 3)) (by omega) (a1 (by omega)) (a2 (by omega)) ?_
          intro x y hxy
          exact nm_e (hpush x y (by rw [hval]; exact hxy))
        · have e2 : mq_ar 21 = 2 := by decide
          rw [e2] at ha ho
          have ho2 : o = p + 1 := by omega
          subst ho2
          refine br_f (by rw [e2]; decide) ?_
          refine br_f (by decide) ?_
          refine br_f (by decide) ?_
          refine br_f (by decide) ?_
          refine br_f (by decide) ?_
          refine br_f (by decide) ?_
          refine mx_h21 (c := v (h - 3)) (by omega) (a1 (by omega)) (a2 (by omega)) ?_
          intro x y hxy
          exact nm_e (hpush x y (by rw [hval]; exact hxy))
        · have e2 : mq_ar 22 = 2 := by decide
          rw [e2] at ha ho
          have ho2 : o = p + 1 := by omega
          subst ho2
          refine br_f (by rw [e2]; decide) ?_
          refine br_f (by decide) ?_
          refine br_f (by decide) ?_
          refine br_f (by decide) ?_
          refine br_f (by decide) ?_
          refine br_f (by decide) ?_
          refine mx_h22 (c := v (h - 3)) (by omega) (a1 (by omega)) (a2 (by omega)) ?_
          intro x y hxy
          exact nm_e (hpush x y (by rw [hval]; exact hxy))
        · have e2 : mq_ar 23 = 2 := by decide
          rw [e2] at ha ho
          have ho2 : o = p + 1 := by omega
          subst ho2
          refine br_f (by rw [e2]; decide) ?_
          refine br_f (by decide) ?_
          refine br_f (by decide) ?_
          refine br_f (by decide) ?_
          refine br_f (by decide) ?_
          refine br_f (by decide) ?_
          refine mx_h23 (c := v (h - 3)) (by omega) (a1 (by omega)) (a2 (by omega)) ?_
          intro x y hxy
          exact nm_e (hpush x y (by rw [hval]; exact hxy))
        · have e2 : mq_ar 30 = 2 := by decide
          rw [e2] at ha ho
          have ho2 : o = p + 1 := by omega
          subst ho2
          refine br_f (by rw [e2]; decide) ?_
          refine br_t rfl ?_
          unfold wX_evaluate_107
          refine mx_h30 (c := v (h - 3)) (by omega) (a1 (by omega)) (a2 (by omega)) ?_
          intro x y hxy
          exact nm_e (hpush x y (by rw [hval]; exact hxy))
        · have e2 : mq_ar 31 = 2 := by decide
          rw [e2] at ha ho
          have ho2 : o = p + 1 := by omega
          subst ho2
          refine br_f (by rw [e2]; decide) ?_
          refine br_f (by decide) ?_
          refine br_t rfl ?_
          unfold wX_evaluate_107
          refine mx_h31 (c := v (h - 3)) (by omega) (a1 (by omega)) (a2 (by omega)) ?_
          intro x y hxy
          exact nm_e (hpush x y (by rw [hval]; exact hxy))
        · have e2 : mq_ar 32 = 1 := by decide
          rw [e2] at ha ho
          have ho2 : o = p := by omega
          subst ho2
          refine br_f (by rw [e2]; decide) ?_
          refine br_f (by decide) ?_
          refine br_f (by decide) ?_
          refine br_f (by decide) ?_
          refine br_f (by decide) ?_
          refine br_f (by decide) ?_
          refine mx_h32 (b := v (h - 2)) (c := v (h - 3)) (by omega) (a1 (by omega)) ?_
          intro x y hxy
          exact nm_e (hpush x y (by rw [hval]; exact hxy))
        · have e2 : mq_ar 33 = 1 := by decide
          rw [e2] at ha ho
          have ho2 : o = p := by omega
          subst ho2
          refine br_f (by rw [e2]; decide) ?_
          refine br_f (by decide) ?_
          refine br_f (by decide) ?_
          refine br_f (by decide) ?_
          refine br_t rfl ?_
          unfold wX_evaluate_140
          refine mx_h33 (b := v (h - 2)) (c := v (h - 3)) (by omega) (a1 (by omega)) ?_
          intro x y hxy
          exact nm_e (hpush x y (by rw [hval]; exact hxy))
        · have e2 : mq_ar 34 = 3 := by decide
          rw [e2] at ha ho
          have ho2 : o = p + 2 := by omega
          subst ho2
          refine br_f (by rw [e2]; decide) ?_
          refine br_f (by decide) ?_
          refine br_f (by decide) ?_
          refine br_f (by decide) ?_
          refine br_f (by decide) ?_
          refine br_t rfl ?_
          unfold wX_evaluate_140
          refine mx_h34 (by omega) (a1 (by omega)) (a2 (by omega)) (a3 (by omega)) ?_
          intro x y hxy
          exact nm_e (hpush x y (by rw [hval]; exact hxy))
theorem mx_ev {post : SX → Prop} {gc pc tm : Int32} {ce rc tk co ln ki : Nat → Int32} {nm : Nat → Int64} {nu pr : Nat → Int32} {fa : Nat → Int64} {m : Nat → Nat} {T C : Nat → Nat → Int32} {P : Nat → Int32} {e : Nat} {b : Bool} (hE : mq_EX m T C tk co ln) (he : e < 4) (hV : ∀ i, i < m e → T e i ∈ mq_tk) (hP : ∀ c, c < 6 → pr c = P c) (hW : mq_WK (T e) (m e) b)
    (K : ∀ nm nu, mq_rx (nu 19) (nm 19) (mq_ev (T e) (C e) P (m e)) → post (gc, pc, tm, ce, rc, tk, co, ln, ki, nm, nu, pr, fa)) : wpX_evaluate post (gc, pc, tm, ce, rc, tk, co, ln, ki, nm, nu, pr, fa) (nI e) := by
  have h1 := hE.1 e he
  refine ⟨vp_in_nI he (by decide), ?_⟩
  rw [nI_clamp (by omega), h1.2, mn_ns]
  refine nm_e ⟨m e + 1, ?_⟩
  refine mx_ev12 (V := T e) (W := C e) (P := P) (len := m e) he h1.1 (hE.2 e he) hV hP hW.1 ?_ (m e) 0 rfl nm nu (fun j hj => absurd hj (Nat.not_lt_zero j))
  intro nm nu HS
  rw [hW.2.1] at HS
  exact K nm nu (HS 0 (by decide))
end MQ12
end
section
section MQ13
theorem mq_tcase {nu : Int32} {x : Int64} {a : Option Int64} (h : mq_ry true nu x a) (ht : mq_tt a) : (a = none ∧ nu = 0 ∧ x = 2) ∨ (a = some 0 ∧ nu = 0 ∧ x = 0) ∨ (a = some 1 ∧ nu = 0 ∧ x = 1) := by
  rcases ht with rfl | rfl | rfl
  · exact Or.inl ⟨rfl, h.1, h.2⟩
  · exact Or.inr (Or.inl ⟨rfl, h.1, h.2⟩)
  · exact Or.inr (Or.inr ⟨rfl, h.1, h.2⟩)
theorem mq_ncase {nu : Int32} {x : Int64} {a : Option Int64} (h : mq_ry false nu x a) : (a = none ∧ nu = 1) ∨ (a = some x ∧ nu = 0) := by
  cases a with
  | none => exact Or.inl ⟨rfl, h.1⟩
  | some y => exact Or.inr ⟨congrArg some h.2.symm, h.1⟩
theorem my_push {post : SY → Prop} {gr fu pp : Int32} {ce rc tk co ln : Nat → Int32} {nm : Nat → Int64} {nu gn : Nat → Int32} {gk gs : Nat → Int64} {p : Nat} (hp : p < 24) {v : Int64} {z : Int32} (hz : z = 0 ∨ z = 1) {y : Int64} (hy : y = if z = 0 then v else 0)
    (K : post (nI (p + 1), gr, fu, pp, ce, rc, tk, co, ln, vp_updL nm p y, upd nu p z, gn, gk, gs)) : wpY_push post (nI p, gr, fu, pp, ce, rc, tk, co, ln, nm, nu, gn, gk, gs) v z := by
  have i1 : vp_in (nI p) 24 := vp_in_nI hp (by decide)
  have c1 : (nI p).toNatClampNeg = p := nI_clamp (by omega)
  rcases hz with rfl | rfl
  · rw [if_pos rfl] at hy
    subst hy
    refine br_t rfl ⟨i1, ?_⟩
    rw [c1, mn_b0, nI_1]
    exact nm_e ⟨i1, nm_e (nm_e K)⟩
  · rw [if_neg (by decide)] at hy
    subst hy
    refine br_f (by decide) ⟨i1, ?_⟩
    rw [c1, mn_b1, nI_1]
    exact nm_e ⟨i1, nm_e (nm_e K)⟩
theorem mq_n01 {k : Bool} {nu : Int32} {x : Int64} {a : Option Int64} (h : mq_ry k nu x a) : nu = 0 ∨ nu = 1 := by
  cases a with
  | none =>
    cases k with
    | true => exact Or.inl h.1
    | false => exact Or.inr h.1
  | some y => exact Or.inl h.1
theorem my_pre1 {post : SY → Prop} {gr fu pp : Int32} {ce rc tk co ln : Nat → Int32} {nm : Nat → Int64} {nu gn : Nat → Int32} {gk gs : Nat → Int64} {t : Int32} (ht : t ∈ mq_tk) (e2 : mq_ar t = 1) {p : Nat} (hp : p + 1 < 24) (z0 : nu p = 0 ∨ nu p = 1)
    (K : wY_apply_151 post t (nm p) (nu p) 0 0 0 0 (nu p) (nI p) gr fu pp ce rc tk co ln nm nu gn gk gs) : wpY_apply post (nI (p + 1), gr, fu, pp, ce, rc, tk, co, ln, nm, nu, gn, gk, gs) t := by
  have i0 : vp_in (nI (p)) 24 := vp_in_nI (by omega) (by decide)
  have c0 : (nI (p)).toNatClampNeg = p := nI_clamp (by omega)
  have s1 : nI (p + 1) - 1 = nI (p) := (pk_sub (a := p + 1) (b := 1) (by omega)).trans (congrArg nI (by omega))
  unfold wpY_apply
  dsimp only
  refine my_oc ht ?_
  rw [e2, show nI 1 = 1 from rfl, s1]
  rw [c0]
  refine ⟨i0, nm_e ⟨i0, nm_e ?_⟩⟩
  refine br_t (by decide) ?_
  refine br_t (by decide) ?_
  refine br_t (by decide) ?_
  refine br_t (by decide) ?_
  refine nm_r s1 ?_
  rcases z0 with z0 | z0
  · rw [z0] at K ⊢
    exact br_t rfl (br_t rfl K)
  · rw [z0] at K ⊢
    exact br_f (by decide) K
theorem my_pre2 {post : SY → Prop} {gr fu pp : Int32} {ce rc tk co ln : Nat → Int32} {nm : Nat → Int64} {nu gn : Nat → Int32} {gk gs : Nat → Int64} {t : Int32} (ht : t ∈ mq_tk) (e2 : mq_ar t = 2) {p : Nat} (hp : p + 2 < 24) (z0 : nu p = 0 ∨ nu p = 1) (z1 : nu (p + 1) = 0 ∨ nu (p + 1) = 1)
    (K : wY_apply_151 post t (nm (p + 1)) (nu (p + 1)) (nm p) (nu p) 0 0 (if nu (p + 1) = 0 then nu p else 1) (nI p) gr fu pp ce rc tk co ln nm nu gn gk gs) : wpY_apply post (nI (p + 2), gr, fu, pp, ce, rc, tk, co, ln, nm, nu, gn, gk, gs) t := by
  have i0 : vp_in (nI (p)) 24 := vp_in_nI (by omega) (by decide)
  have c0 : (nI (p)).toNatClampNeg = p := nI_clamp (by omega)
  have i1 : vp_in (nI (p + 1)) 24 := vp_in_nI (by omega) (by decide)
  have c1 : (nI (p + 1)).toNatClampNeg = p + 1 := nI_clamp (by omega)
  have s1 : nI (p + 2) - 1 = nI (p + 1) := (pk_sub (a := p + 2) (b := 1) (by omega)).trans (congrArg nI (by omega))
  have s2 : nI (p + 2) - 2 = nI (p) := (pk_sub (a := p + 2) (b := 2) (by omega)).trans (congrArg nI (by omega))
  unfold wpY_apply
  dsimp only
  refine my_oc ht ?_
  rw [e2, show nI 2 = 2 from rfl, s1, s2]
  rw [c1, c0]
  refine ⟨i1, nm_e ⟨i1, nm_e ?_⟩⟩
  refine br_f (by decide) ⟨i0, ?_⟩
  have q76 : wY_apply_76 post t 2 (nm (p + 1)) (nu (p + 1)) (nm p) (nu p) (nI (p + 2)) gr fu pp ce rc tk co ln nm nu gn gk gs := by
    refine br_t (by decide) (br_t (by decide) (nm_r s2 ?_))
    by_cases za : nu (p + 1) = 0
    · rw [if_pos za] at K
      refine br_t za ?_
      rcases z0 with z0 | z0
      · rw [z0] at K ⊢
        exact br_t rfl K
      · rw [z0] at K ⊢
        exact br_f (by decide) K
    · rw [if_neg za] at K
      exact br_f za K
  refine br_f (by decide) ?_
  rw [s2, c0]
  refine ⟨i0, ?_⟩
  rcases z0 with z0 | z0
  · rw [z0] at q76 ⊢
    exact br_t rfl q76
  · rw [z0] at q76 ⊢
    exact br_f (by decide) q76
theorem my_pre3 {post : SY → Prop} {gr fu pp : Int32} {ce rc tk co ln : Nat → Int32} {nm : Nat → Int64} {nu gn : Nat → Int32} {gk gs : Nat → Int64} {t : Int32} (ht : t ∈ mq_tk) (e2 : mq_ar t = 3) {p : Nat} (hp : p + 3 < 24) (z0 : nu p = 0 ∨ nu p = 1) (z1 : nu (p + 1) = 0 ∨ nu (p + 1) = 1) (z2 : nu (p + 2) = 0 ∨ nu (p + 2) = 1)
    (K : wY_apply_151 post t (nm (p + 2)) (nu (p + 2)) (nm (p + 1)) (nu (p + 1)) (nm p) (nu p) (if nu (p + 2) = 0 then nu (p + 1) else 1) (nI p) gr fu pp ce rc tk co ln nm nu gn gk gs) : wpY_apply post (nI (p + 3), gr, fu, pp, ce, rc, tk, co, ln, nm, nu, gn, gk, gs) t := by
  have i0 : vp_in (nI (p)) 24 := vp_in_nI (by omega) (by decide)
  have c0 : (nI (p)).toNatClampNeg = p := nI_clamp (by omega)
  have i1 : vp_in (nI (p + 1)) 24 := vp_in_nI (by omega) (by decide)
  have c1 : (nI (p + 1)).toNatClampNeg = p + 1 := nI_clamp (by omega)
  have i2 : vp_in (nI (p + 2)) 24 := vp_in_nI (by omega) (by decide)
  have c2 : (nI (p + 2)).toNatClampNeg = p + 2 := nI_clamp (by omega)
  have s1 : nI (p + 3) - 1 = nI (p + 2) := (pk_sub (a := p + 3) (b := 1) (by omega)).trans (congrArg nI (by omega))
  have s2 : nI (p + 3) - 2 = nI (p + 1) := (pk_sub (a := p + 3) (b := 2) (by omega)).trans (congrArg nI (by omega))
  have s3 : nI (p + 3) - 3 = nI (p) := (pk_sub (a := p + 3) (b := 3) (by omega)).trans (congrArg nI (by omega))
  unfold wpY_apply
  dsimp only
  refine my_oc ht ?_
  rw [e2, show nI 3 = 3 from rfl, s1, s2]
  rw [c2, c1]
  refine ⟨i2, nm_e ⟨i2, nm_e ?_⟩⟩
  refine br_f (by decide) ⟨i1, ?_⟩
  have q76 : wY_apply_76 post t 3 (nm (p + 2)) (nu (p + 2)) (nm (p + 1)) (nu (p + 1)) (nI (p + 3)) gr fu pp ce rc tk co ln nm nu gn gk gs := by
    refine br_f (by decide) ?_
    rw [s3, c0]
    refine ⟨i0, ?_⟩
    refine br_f (by decide) ?_
    rw [s3, c0]
    refine ⟨i0, ?_⟩
    have q124 : wY_apply_124 post t 3 (nm (p + 2)) (nu (p + 2)) (nm (p + 1)) (nu (p + 1)) (nm p) (nu p) (nI (p + 3)) gr fu pp ce rc tk co ln nm nu gn gk gs := by
      refine nm_r s3 ?_
      by_cases za : nu (p + 2) = 0
      · rw [if_pos za] at K
        refine br_t za ?_
        rcases z1 with z1 | z1
        · rw [z1] at K ⊢
          exact br_t rfl K
        · rw [z1] at K ⊢
          exact br_f (by decide) K
      · rw [if_neg za] at K
        exact br_f za K
    rcases z0 with z0 | z0
    · rw [z0] at q124 ⊢
      exact br_t rfl q124
    · rw [z0] at q124 ⊢
      exact br_f (by decide) q124
  refine br_f (by decide) ?_
  rw [s2, c1]
  refine ⟨i1, ?_⟩
  rcases z1 with z1 | z1
  · rw [z1] at q76 ⊢
    exact br_t rfl q76
  · rw [z1] at q76 ⊢
    exact br_f (by decide) q76
theorem my_h10 {post : SY → Prop} {gr fu pp : Int32} {ce rc tk co ln : Nat → Int32} {nm : Nat → Int64} {nu gn : Nat → Int32} {gk gs : Nat → Int64} {p : Nat} (hp : p + 2 < 24) {a b c : Option Int64} (ha : mq_ry false (nu (p + 1)) (nm (p + 1)) a) (hb : mq_ry false (nu p) (nm p) b)
    (K : ∀ x y, mq_ry false x y (mq_op 10 a b c) → post (nI (p + 1), gr, fu, pp, ce, rc, tk, co, ln, vp_updL nm p y, upd nu p x, gn, gk, gs)) : wpY_apply post (nI (p + 2), gr, fu, pp, ce, rc, tk, co, ln, nm, nu, gn, gk, gs) 10 := by
  refine my_pre2 (by decide) (by decide) hp (mq_n01 hb) (mq_n01 ha) ?_
  refine br_f (by decide) ?_
  refine br_f (by decide) (br_f (by decide) ?_)
  rcases mq_ncase ha with ⟨rfl, na⟩ | ⟨rfl, na⟩
  · rcases mq_ncase hb with ⟨rfl, nb⟩ | ⟨rfl, nb⟩
    · rw [na, if_neg (by decide)]
      refine br_f (by decide) (br_f (by decide) ?_)
      exact my_push (by omega) (Or.inr rfl) rfl (K _ _ (by simp [mq_ry, mq_op, mq_b2]))
    · rw [na, if_neg (by decide)]
      refine br_f (by decide) (br_f (by decide) ?_)
      exact my_push (by omega) (Or.inr rfl) rfl (K _ _ (by simp [mq_ry, mq_op, mq_b2]))
  · rcases mq_ncase hb with ⟨rfl, nb⟩ | ⟨rfl, nb⟩
    · rw [na, nb, if_pos rfl]
      refine br_f (by decide) (br_f (by decide) ?_)
      exact my_push (by omega) (Or.inr rfl) rfl (K _ _ (by simp [mq_ry, mq_op, mq_b2]))
    · rw [na, nb, if_pos rfl]
      refine br_t rfl (br_t rfl ?_)
      refine br_f (by decide) (br_f (by decide) (br_t rfl ?_))
      refine br_t rfl (br_t rfl ?_)
      exact my_push (by omega) (Or.inl rfl) rfl (K _ _ (by simp [mq_ry, mq_op, mq_b2]))
theorem my_h11 {post : SY → Prop} {gr fu pp : Int32} {ce rc tk co ln : Nat → Int32} {nm : Nat → Int64} {nu gn : Nat → Int32} {gk gs : Nat → Int64} {p : Nat} (hp : p + 2 < 24) {a b c : Option Int64} (ha : mq_ry false (nu (p + 1)) (nm (p + 1)) a) (hb : mq_ry false (nu p) (nm p) b)
    (K : ∀ x y, mq_ry false x y (mq_op 11 a b c) → post (nI (p + 1), gr, fu, pp, ce, rc, tk, co, ln, vp_updL nm p y, upd nu p x, gn, gk, gs)) : wpY_apply post (nI (p + 2), gr, fu, pp, ce, rc, tk, co, ln, nm, nu, gn, gk, gs) 11 := by
  refine my_pre2 (by decide) (by decide) hp (mq_n01 hb) (mq_n01 ha) ?_
  refine br_f (by decide) ?_
  refine br_f (by decide) (br_f (by decide) ?_)
  rcases mq_ncase ha with ⟨rfl, na⟩ | ⟨rfl, na⟩
  · rcases mq_ncase hb with ⟨rfl, nb⟩ | ⟨rfl, nb⟩
    · rw [na, if_neg (by decide)]
      refine br_f (by decide) (br_f (by decide) ?_)
      exact my_push (by omega) (Or.inr rfl) rfl (K _ _ (by simp [mq_ry, mq_op, mq_b2]))
    · rw [na, if_neg (by decide)]
      refine br_f (by decide) (br_f (by decide) ?_)
      exact my_push (by omega) (Or.inr rfl) rfl (K _ _ (by simp [mq_ry, mq_op, mq_b2]))
  · rcases mq_ncase hb with ⟨rfl, nb⟩ | ⟨rfl, nb⟩
    · rw [na, nb, if_pos rfl]
      refine br_f (by decide) (br_f (by decide) ?_)
      exact my_push (by omega) (Or.inr rfl) rfl (K _ _ (by simp [mq_ry, mq_op, mq_b2]))
    · rw [na, nb, if_pos rfl]
      refine br_t rfl (br_t rfl ?_)
      refine br_f (by decide) (br_f (by decide) (br_f (by decide) (br_t rfl ?_)))
      refine br_t rfl (br_t rfl ?_)
      exact my_push (by omega) (Or.inl rfl) rfl (K _ _ (by simp [mq_ry, mq_op, mq_b2]))
theorem my_h12 {post : SY → Prop} {gr fu pp : Int32} {ce rc tk co ln : Nat → Int32} {nm : Nat → Int64} {nu gn : Nat → Int32} {gk gs : Nat → Int64} {p : Nat} (hp : p + 2 < 24) {a b c : Option Int64} (ha : mq_ry false (nu (p + 1)) (nm (p + 1)) a) (hb : mq_ry false (nu p) (nm p) b)
    (K : ∀ x y, mq_ry false x y (mq_op 12 a b c) → post (nI (p + 1), gr, fu, pp, ce, rc, tk, co, ln, vp_updL nm p y, upd nu p x, gn, gk, gs)) : wpY_apply post (nI (p + 2), gr, fu, pp, ce, rc, tk, co, ln, nm, nu, gn, gk, gs) 12 := by
  refine my_pre2 (by decide) (by decide) hp (mq_n01 hb) (mq_n01 ha) ?_
  refine br_f (by decide) ?_
  refine br_f (by decide) (br_f (by decide) ?_)
  rcases mq_ncase ha with ⟨rfl, na⟩ | ⟨rfl, na⟩
  · rcases mq_ncase hb with ⟨rfl, nb⟩ | ⟨rfl, nb⟩
    · rw [na, if_neg (by decide)]
      refine br_f (by decide) (br_f (by decide) ?_)
      exact my_push (by omega) (Or.inr rfl) rfl (K _ _ (by simp [mq_ry, mq_op, mq_b2]))
    · rw [na, if_neg (by decide)]
      refine br_f (by decide) (br_f (by decide) ?_)
      exact my_push (by omega) (Or.inr rfl) rfl (K _ _ (by simp [mq_ry, mq_op, mq_b2]))
  · rcases mq_ncase hb with ⟨rfl, nb⟩ | ⟨rfl, nb⟩
    · rw [na, nb, if_pos rfl]
      refine br_f (by decide) (br_f (by decide) ?_)
      exact my_push (by omega) (Or.inr rfl) rfl (K _ _ (by simp [mq_ry, mq_op, mq_b2]))
    · rw [na, nb, if_pos rfl]
      refine br_t rfl (br_t rfl ?_)
      refine br_f (by decide) (br_f (by decide) (br_f (by decide) (br_f (by decide) (br_t rfl ?_))))
      refine br_t rfl (br_t rfl ?_)
      exact my_push (by omega) (Or.inl rfl) rfl (K _ _ (by simp [mq_ry, mq_op, mq_b2]))
theorem my_h13 {post : SY → Prop} {gr fu pp : Int32} {ce rc tk co ln : Nat → Int32} {nm : Nat → Int64} {nu gn : Nat → Int32} {gk gs : Nat → Int64} {p : Nat} (hp : p + 2 < 24) {a b c : Option Int64} (ha : mq_ry false (nu (p + 1)) (nm (p + 1)) a) (hb : mq_ry false (nu p) (nm p) b)
    (K : ∀ x y, mq_ry false x y (mq_op 13 a b c) → post (nI (p + 1), gr, fu, pp, ce, rc, tk, co, ln, vp_updL nm p y, upd nu p x, gn, gk, gs)) : wpY_apply post (nI (p + 2), gr, fu, pp, ce, rc, tk, co, ln, nm, nu, gn, gk, gs) 13 := by
  refine my_pre2 (by decide) (by decide) hp (mq_n01 hb) (mq_n01 ha) ?_
  refine br_f (by decide) ?_
  refine br_t rfl ?_
  rcases mq_ncase ha with ⟨rfl, na⟩ | ⟨rfl, na⟩
  · rcases mq_ncase hb with ⟨rfl, nb⟩ | ⟨rfl, nb⟩
    · rw [na, if_neg (by decide)]
      by_cases hz : nm p = 0
      · refine br_t hz (br_f (by decide) (br_f (by decide) ?_))
        exact my_push (by omega) (Or.inr rfl) rfl (K _ _ (by simp [mq_ry, mq_op, mq_b2]))
      · refine br_f hz (br_f (by decide) (br_f (by decide) ?_))
        exact my_push (by omega) (Or.inr rfl) rfl (K _ _ (by simp [mq_ry, mq_op, mq_b2]))
    · rw [na, if_neg (by decide)]
      by_cases hz : nm p = 0
      · refine br_t hz (br_f (by decide) (br_f (by decide) ?_))
        exact my_push (by omega) (Or.inr rfl) rfl (K _ _ (by simp [mq_ry, mq_op, mq_b2]))
      · refine br_f hz (br_f (by decide) (br_f (by decide) ?_))
        exact my_push (by omega) (Or.inr rfl) rfl (K _ _ (by simp [mq_ry, mq_op, mq_b2]))
  · rcases mq_ncase hb with ⟨rfl, nb⟩ | ⟨rfl, nb⟩
    · rw [na, nb, if_pos rfl]
      by_cases hz : nm p = 0
      · refine br_t hz (br_f (by decide) (br_f (by decide) ?_))
        exact my_push (by omega) (Or.inr rfl) rfl (K _ _ (by simp [mq_ry, mq_op, mq_b2]))
      · refine br_f hz (br_f (by decide) (br_f (by decide) ?_))
        exact my_push (by omega) (Or.inr rfl) rfl (K _ _ (by simp [mq_ry, mq_op, mq_b2]))
    · rw [na, nb, if_pos rfl]
      by_cases hz : nm p = 0
      · refine br_t hz (br_t rfl (br_f (by decide) (br_t rfl (br_f (by decide) ?_))))
        exact my_push (by omega) (Or.inr rfl) rfl (K _ _ (by simp [mq_ry, mq_op, mq_b2, hz]))
      · refine br_f hz (br_t rfl (br_t rfl ?_))
        refine br_f (by decide) (br_f (by decide) (br_f (by decide) (br_f (by decide) (br_f (by decide) (br_t rfl (br_f hz ⟨hz, ?_⟩))))))
        refine br_t rfl (br_t rfl ?_)
        exact my_push (by omega) (Or.inl rfl) rfl (K _ _ (by simp [mq_ry, mq_op, mq_b2, hz]))
theorem my_h14 {post : SY → Prop} {gr fu pp : Int32} {ce rc tk co ln : Nat → Int32} {nm : Nat → Int64} {nu gn : Nat → Int32} {gk gs : Nat → Int64} {p : Nat} (hp : p + 2 < 24) {a b c : Option Int64} (ha : mq_ry false (nu (p + 1)) (nm (p + 1)) a) (hb : mq_ry false (nu p) (nm p) b)
    (K : ∀ x y, mq_ry false x y (mq_op 14 a b c) → post (nI (p + 1), gr, fu, pp, ce, rc, tk, co, ln, vp_updL nm p y, upd nu p x, gn, gk, gs)) : wpY_apply post (nI (p + 2), gr, fu, pp, ce, rc, tk, co, ln, nm, nu, gn, gk, gs) 14 := by
  refine my_pre2 (by decide) (by decide) hp (mq_n01 hb) (mq_n01 ha) ?_
  refine br_f (by decide) ?_
  refine br_f (by decide) (br_t rfl ?_)
  rcases mq_ncase ha with ⟨rfl, na⟩ | ⟨rfl, na⟩
  · rcases mq_ncase hb with ⟨rfl, nb⟩ | ⟨rfl, nb⟩
    · rw [na, if_neg (by decide)]
      by_cases hz : nm p = 0
      · refine br_t hz (br_f (by decide) (br_f (by decide) ?_))
        exact my_push (by omega) (Or.inr rfl) rfl (K _ _ (by simp [mq_ry, mq_op, mq_b2]))
      · refine br_f hz (br_f (by decide) (br_f (by decide) ?_))
        exact my_push (by omega) (Or.inr rfl) rfl (K _ _ (by simp [mq_ry, mq_op, mq_b2]))
    · rw [na, if_neg (by decide)]
      by_cases hz : nm p = 0
      · refine br_t hz (br_f (by decide) (br_f (by decide) ?_))
        exact my_push (by omega) (Or.inr rfl) rfl (K _ _ (by simp [mq_ry, mq_op, mq_b2]))
      · refine br_f hz (br_f (by decide) (br_f (by decide) ?_))
        exact my_push (by omega) (Or.inr rfl) rfl (K _ _ (by simp [mq_ry, mq_op, mq_b2]))
  · rcases mq_ncase hb with ⟨rfl, nb⟩ | ⟨rfl, nb⟩
    · rw [na, nb, if_pos rfl]
      by_cases hz : nm p = 0
      · refine br_t hz (br_f (by decide) (br_f (by decide) ?_))
        exact my_push (by omega) (Or.inr rfl) rfl (K _ _ (by simp [mq_ry, mq_op, mq_b2]))
      · refine br_f hz (br_f (by decide) (br_f (by decide) ?_))
        exact my_push (by omega) (Or.inr rfl) rfl (K _ _ (by simp [mq_ry, mq_op, mq_b2]))
    · rw [na, nb, if_pos rfl]
      by_cases hz : nm p = 0
      · refine br_t hz (br_t rfl (br_f (by decide) (br_t rfl (br_f (by decide) ?_))))
        exact my_push (by omega) (Or.inr rfl) rfl (K _ _ (by simp [mq_ry, mq_op, mq_b2, hz]))
      · refine br_f hz (br_t rfl (br_t rfl ?_))
        refine br_f (by decide) (br_f (by decide) (br_f (by decide) (br_f (by decide) (br_f (by decide) (br_f (by decide) (br_t rfl (br_f hz ⟨hz, ?_⟩)))))))
        refine br_t rfl (br_t rfl ?_)
        exact my_push (by omega) (Or.inl rfl) rfl (K _ _ (by simp [mq_ry, mq_op, mq_b2, hz]))
theorem my_h15 {post : SY → Prop} {gr fu pp : Int32} {ce rc tk co ln : Nat → Int32} {nm : Nat → Int64} {nu gn : Nat → Int32} {gk gs : Nat → Int64} {p : Nat} (hp : p + 1 < 24) {a b c : Option Int64} (ha : mq_ry false (nu p) (nm p) a)
    (K : ∀ x y, mq_ry false x y (mq_op 15 a b c) → post (nI (p + 1), gr, fu, pp, ce, rc, tk, co, ln, vp_updL nm p y, upd nu p x, gn, gk, gs)) : wpY_apply post (nI (p + 1), gr, fu, pp, ce, rc, tk, co, ln, nm, nu, gn, gk, gs) 15 := by
  refine my_pre1 (by decide) (by decide) hp (mq_n01 ha) ?_
  refine br_f (by decide) ?_
  refine br_f (by decide) (br_f (by decide) ?_)
  rcases mq_ncase ha with ⟨rfl, na⟩ | ⟨rfl, na⟩
  · rw [na]
    refine br_f (by decide) (br_f (by decide) ?_)
    exact my_push (by omega) (Or.inr rfl) rfl (K _ _ (by simp [mq_ry, mq_op, mq_b2]))
  · rw [na]
    refine br_t rfl (br_t rfl ?_)
    refine br_f (by decide) (br_t (by decide) ?_)
    refine br_t rfl (br_t rfl ?_)
    exact my_push (by omega) (Or.inl rfl) rfl (K _ _ (by simp [mq_ry, mq_op, mq_b2]))
theorem my_h16 {post : SY → Prop} {gr fu pp : Int32} {ce rc tk co ln : Nat → Int32} {nm : Nat → Int64} {nu gn : Nat → Int32} {gk gs : Nat → Int64} {p : Nat} (hp : p + 2 < 24) {a b c : Option Int64} (ha : mq_ry false (nu (p + 1)) (nm (p + 1)) a) (hb : mq_ry false (nu p) (nm p) b)
    (K : ∀ x y, mq_ry false x y (mq_op 16 a b c) → post (nI (p + 1), gr, fu, pp, ce, rc, tk, co, ln, vp_updL nm p y, upd nu p x, gn, gk, gs)) : wpY_apply post (nI (p + 2), gr, fu, pp, ce, rc, tk, co, ln, nm, nu, gn, gk, gs) 16 := by
  refine my_pre2 (by decide) (by decide) hp (mq_n01 hb) (mq_n01 ha) ?_
  refine br_t (by decide) (br_t rfl ?_)
  rcases mq_ncase ha with ⟨rfl, na⟩ | ⟨rfl, na⟩
  · rcases mq_ncase hb with ⟨rfl, nb⟩ | ⟨rfl, nb⟩
    · rw [na, nb]
      refine br_f (by decide) (br_f (by decide) (br_f (by decide) ?_))
      exact my_push (by omega) (Or.inr rfl) rfl (K _ _ (by simp [mq_ry, mq_op, mq_b2]))
    · rw [na, nb]
      refine br_f (by decide) (br_f (by decide) (br_t rfl ?_))
      exact my_push (by omega) (Or.inl rfl) rfl (K _ _ (by simp [mq_ry, mq_op, mq_b2]))
  · rcases mq_ncase hb with ⟨rfl, nb⟩ | ⟨rfl, nb⟩
    · rw [na, nb]
      refine br_t rfl (br_t rfl ?_)
      exact my_push (by omega) (Or.inl rfl) rfl (K _ _ (by simp [mq_ry, mq_op, mq_b2]))
    · rw [na, nb]
      refine br_t rfl (br_t rfl ?_)
      exact my_push (by omega) (Or.inl rfl) rfl (K _ _ (by simp [mq_ry, mq_op, mq_b2]))
theorem my_h20 {post : SY → Prop} {gr fu pp : Int32} {ce rc tk co ln : Nat → Int32} {nm : Nat → Int64} {nu gn : Nat → Int32} {gk gs : Nat → Int64} {p : Nat} (hp : p + 2 < 24) {a b c : Option Int64} (ha : mq_ry false (nu (p + 1)) (nm (p + 1)) a) (hb : mq_ry false (nu p) (nm p) b)
    (K : ∀ x y, mq_ry true x y (mq_op 20 a b c) → post (nI (p + 1), gr, fu, pp, ce, rc, tk, co, ln, vp_updL nm p y, upd nu p x, gn, gk, gs)) : wpY_apply post (nI (p + 2), gr, fu, pp, ce, rc, tk, co, ln, nm, nu, gn, gk, gs) 20 := by
  refine my_pre2 (by decide) (by decide) hp (mq_n01 hb) (mq_n01 ha) ?_
  refine br_t (by decide) (br_f (by decide) (br_f (by decide) ?_))
  refine br_t rfl ?_
  rcases mq_ncase ha with ⟨rfl, na⟩ | ⟨rfl, na⟩
  · rcases mq_ncase hb with ⟨rfl, nb⟩ | ⟨rfl, nb⟩
    · rw [na, if_neg (by decide)]
      by_cases hz : nm (p + 1) = nm p
      · refine br_t hz (br_f (by decide) ?_)
        exact my_push (by omega) (Or.inl rfl) rfl (K _ _ (by simp [mq_ry, mq_op, mq_b2]))
      · refine br_f hz (br_f (by decide) ?_)
        exact my_push (by omega) (Or.inl rfl) rfl (K _ _ (by simp [mq_ry, mq_op, mq_b2]))
    · rw [na, if_neg (by decide)]
      by_cases hz : nm (p + 1) = nm p
      · refine br_t hz (br_f (by decide) ?_)
        exact my_push (by omega) (Or.inl rfl) rfl (K _ _ (by simp [mq_ry, mq_op, mq_b2]))
      · refine br_f hz (br_f (by decide) ?_)
        exact my_push (by omega) (Or.inl rfl) rfl (K _ _ (by simp [mq_ry, mq_op, mq_b2]))
  · rcases mq_ncase hb with ⟨rfl, nb⟩ | ⟨rfl, nb⟩
    · rw [na, nb, if_pos rfl]
      by_cases hz : nm (p + 1) = nm p
      · refine br_t hz (br_f (by decide) ?_)
        exact my_push (by omega) (Or.inl rfl) rfl (K _ _ (by simp [mq_ry, mq_op, mq_b2]))
      · refine br_f hz (br_f (by decide) ?_)
        exact my_push (by omega) (Or.inl rfl) rfl (K _ _ (by simp [mq_ry, mq_op, mq_b2]))
    · rw [na, nb, if_pos rfl]
      by_cases hz : nm (p + 1) = nm p
      · refine br_t hz (br_t rfl (br_f (by decide) ?_))
        exact my_push (by omega) (Or.inl rfl) rfl (K _ _ (by simp [mq_ry, mq_op, mq_b2, hz]))
      · refine br_f hz (br_t rfl (br_t rfl ?_))
        exact my_push (by omega) (Or.inl rfl) rfl (K _ _ (by simp [mq_ry, mq_op, mq_b2, hz]))
theorem my_h21 {post : SY → Prop} {gr fu pp : Int32} {ce rc tk co ln : Nat → Int32} {nm : Nat → Int64} {nu gn : Nat → Int32} {gk gs : Nat → Int64} {p : Nat} (hp : p + 2 < 24) {a b c : Option Int64} (ha : mq_ry false (nu (p + 1)) (nm (p + 1)) a) (hb : mq_ry false (nu p) (nm p) b)
    (K : ∀ x y, mq_ry true x y (mq_op 21 a b c) → post (nI (p + 1), gr, fu, pp, ce, rc, tk, co, ln, vp_updL nm p y, upd nu p x, gn, gk, gs)) : wpY_apply post (nI (p + 2), gr, fu, pp, ce, rc, tk, co, ln, nm, nu, gn, gk, gs) 21 := by
  refine my_pre2 (by decide) (by decide) hp (mq_n01 hb) (mq_n01 ha) ?_
  refine br_t (by decide) (br_f (by decide) (br_f (by decide) ?_))
  refine br_f (by decide) ?_
  refine br_t rfl ?_
  rcases mq_ncase ha with ⟨rfl, na⟩ | ⟨rfl, na⟩
  · rcases mq_ncase hb with ⟨rfl, nb⟩ | ⟨rfl, nb⟩
    · rw [na, if_neg (by decide)]
      by_cases hz : nm p ≤ nm (p + 1)
      · have hz' : ¬ nm (p + 1) < nm p := Int64.not_lt.mpr hz
        refine br_t hz (br_f (by decide) ?_)
        exact my_push (by omega) (Or.inl rfl) rfl (K _ _ (by simp [mq_ry, mq_op, mq_b2]))
      · have hz' : nm (p + 1) < nm p := Int64.not_le.mp hz
        refine br_f hz (br_f (by decide) ?_)
        exact my_push (by omega) (Or.inl rfl) rfl (K _ _ (by simp [mq_ry, mq_op, mq_b2]))
    · rw [na, if_neg (by decide)]
      by_cases hz : nm p ≤ nm (p + 1)
      · have hz' : ¬ nm (p + 1) < nm p := Int64.not_lt.mpr hz
        refine br_t hz (br_f (by decide) ?_)
        exact my_push (by omega) (Or.inl rfl) rfl (K _ _ (by simp [mq_ry, mq_op, mq_b2]))
      · have hz' : nm (p + 1) < nm p := Int64.not_le.mp hz
        refine br_f hz (br_f (by decide) ?_)
        exact my_push (by omega) (Or.inl rfl) rfl (K _ _ (by simp [mq_ry, mq_op, mq_b2]))
  · rcases mq_ncase hb with ⟨rfl, nb⟩ | ⟨rfl, nb⟩
    · rw [na, nb, if_pos rfl]
      by_cases hz : nm p ≤ nm (p + 1)
      · have hz' : ¬ nm (p + 1) < nm p := Int64.not_lt.mpr hz
        refine br_t hz (br_f (by decide) ?_)
        exact my_push (by omega) (Or.inl rfl) rfl (K _ _ (by simp [mq_ry, mq_op, mq_b2]))
      · have hz' : nm (p + 1) < nm p := Int64.not_le.mp hz
        refine br_f hz (br_f (by decide) ?_)
        exact my_push (by omega) (Or.inl rfl) rfl (K _ _ (by simp [mq_ry, mq_op, mq_b2]))
    · rw [na, nb, if_pos rfl]
      by_cases hz : nm p ≤ nm (p + 1)
      · have hz' : ¬ nm (p + 1) < nm p := Int64.not_lt.mpr hz
        refine br_t hz (br_t rfl (br_t rfl ?_))
        exact my_push (by omega) (Or.inl rfl) rfl (K _ _ (by simp [mq_ry, mq_op, mq_b2, hz, hz']))
      · have hz' : nm (p + 1) < nm p := Int64.not_le.mp hz
        refine br_f hz (br_t rfl (br_f (by decide) ?_))
        exact my_push (by omega) (Or.inl rfl) rfl (K _ _ (by simp [mq_ry, mq_op, mq_b2, hz, hz']))
theorem my_h22 {post : SY → Prop} {gr fu pp : Int32} {ce rc tk co ln : Nat → Int32} {nm : Nat → Int64} {nu gn : Nat → Int32} {gk gs : Nat → Int64} {p : Nat} (hp : p + 2 < 24) {a b c : Option Int64} (ha : mq_ry false (nu (p + 1)) (nm (p + 1)) a) (hb : mq_ry false (nu p) (nm p) b)
    (K : ∀ x y, mq_ry true x y (mq_op 22 a b c) → post (nI (p + 1), gr, fu, pp, ce, rc, tk, co, ln, vp_updL nm p y, upd nu p x, gn, gk, gs)) : wpY_apply post (nI (p + 2), gr, fu, pp, ce, rc, tk, co, ln, nm, nu, gn, gk, gs) 22 := by
  refine my_pre2 (by decide) (by decide) hp (mq_n01 hb) (mq_n01 ha) ?_
  refine br_t (by decide) (br_f (by decide) (br_f (by decide) ?_))
  refine br_f (by decide) ?_
  refine br_f (by decide) ?_
  refine br_t rfl ?_
  rcases mq_ncase ha with ⟨rfl, na⟩ | ⟨rfl, na⟩
  · rcases mq_ncase hb with ⟨rfl, nb⟩ | ⟨rfl, nb⟩
    · rw [na, if_neg (by decide)]
      by_cases hz : nm p < nm (p + 1)
      · have hz' : ¬ nm (p + 1) ≤ nm p := Int64.not_le.mpr hz
        refine br_t hz (br_f (by decide) ?_)
        exact my_push (by omega) (Or.inl rfl) rfl (K _ _ (by simp [mq_ry, mq_op, mq_b2]))
      · have hz' : nm (p + 1) ≤ nm p := Int64.not_lt.mp hz
        refine br_f hz (br_f (by decide) ?_)
        exact my_push (by omega) (Or.inl rfl) rfl (K _ _ (by simp [mq_ry, mq_op, mq_b2]))
    · rw [na, if_neg (by decide)]
      by_cases hz : nm p < nm (p + 1)
      · have hz' : ¬ nm (p + 1) ≤ nm p := Int64.not_le.mpr hz
        refine br_t hz (br_f (by decide) ?_)
        exact my_push (by omega) (Or.inl rfl) rfl (K _ _ (by simp [mq_ry, mq_op, mq_b2]))
      · have hz' : nm (p + 1) ≤ nm p := Int64.not_lt.mp hz
        refine br_f hz (br_f (by decide) ?_)
        exact my_push (by omega) (Or.inl rfl) rfl (K _ _ (by simp [mq_ry, mq_op, mq_b2]))
  · rcases mq_ncase hb with ⟨rfl, nb⟩ | ⟨rfl, nb⟩
    · rw [na, nb, if_pos rfl]
      by_cases hz : nm p < nm (p + 1)
      · have hz' : ¬ nm (p + 1) ≤ nm p := Int64.not_le.mpr hz
        refine br_t hz (br_f (by decide) ?_)
        exact my_push (by omega) (Or.inl rfl) rfl (K _ _ (by simp [mq_ry, mq_op, mq_b2]))
      · have hz' : nm (p + 1) ≤ nm p := Int64.not_lt.mp hz
        refine br_f hz (br_f (by decide) ?_)
        exact my_push (by omega) (Or.inl rfl) rfl (K _ _ (by simp [mq_ry, mq_op, mq_b2]))
    · rw [na, nb, if_pos rfl]
      by_cases hz : nm p < nm (p + 1)
      · have hz' : ¬ nm (p + 1) ≤ nm p := Int64.not_le.mpr hz
        refine br_t hz (br_t rfl (br_t rfl ?_))
        exact my_push (by omega) (Or.inl rfl) rfl (K _ _ (by simp [mq_ry, mq_op, mq_b2, hz, hz']))
      · have hz' : nm (p + 1) ≤ nm p := Int64.not_lt.mp hz
        refine br_f hz (br_t rfl (br_f (by decide) ?_))
        exact my_push (by omega) (Or.inl rfl) rfl (K _ _ (by simp [mq_ry, mq_op, mq_b2, hz, hz']))
theorem my_h23 {post : SY → Prop} {gr fu pp : Int32} {ce rc tk co ln : Nat → Int32} {nm : Nat → Int64} {nu gn : Nat → Int32} {gk gs : Nat → Int64} {p : Nat} (hp : p + 2 < 24) {a b c : Option Int64} (ha : mq_ry false (nu (p + 1)) (nm (p + 1)) a) (hb : mq_ry false (nu p) (nm p) b)
    (K : ∀ x y, mq_ry true x y (mq_op 23 a b c) → post (nI (p + 1), gr, fu, pp, ce, rc, tk, co, ln, vp_updL nm p y, upd nu p x, gn, gk, gs)) : wpY_apply post (nI (p + 2), gr, fu, pp, ce, rc, tk, co, ln, nm, nu, gn, gk, gs) 23 := by
  refine my_pre2 (by decide) (by decide) hp (mq_n01 hb) (mq_n01 ha) ?_
  refine br_t (by decide) (br_f (by decide) (br_f (by decide) ?_))
  refine br_f (by decide) ?_
  refine br_f (by decide) ?_
  refine br_f (by decide) ?_
  rcases mq_ncase ha with ⟨rfl, na⟩ | ⟨rfl, na⟩
  · rcases mq_ncase hb with ⟨rfl, nb⟩ | ⟨rfl, nb⟩
    · rw [na, if_neg (by decide)]
      by_cases hz : nm (p + 1) = nm p
      · refine br_t hz (br_f (by decide) ?_)
        exact my_push (by omega) (Or.inl rfl) rfl (K _ _ (by simp [mq_ry, mq_op, mq_b2]))
      · refine br_f hz (br_f (by decide) ?_)
        exact my_push (by omega) (Or.inl rfl) rfl (K _ _ (by simp [mq_ry, mq_op, mq_b2]))
    · rw [na, if_neg (by decide)]
      by_cases hz : nm (p + 1) = nm p
      · refine br_t hz (br_f (by decide) ?_)
        exact my_push (by omega) (Or.inl rfl) rfl (K _ _ (by simp [mq_ry, mq_op, mq_b2]))
      · refine br_f hz (br_f (by decide) ?_)
        exact my_push (by omega) (Or.inl rfl) rfl (K _ _ (by simp [mq_ry, mq_op, mq_b2]))
  · rcases mq_ncase hb with ⟨rfl, nb⟩ | ⟨rfl, nb⟩
    · rw [na, nb, if_pos rfl]
      by_cases hz : nm (p + 1) = nm p
      · refine br_t hz (br_f (by decide) ?_)
        exact my_push (by omega) (Or.inl rfl) rfl (K _ _ (by simp [mq_ry, mq_op, mq_b2]))
      · refine br_f hz (br_f (by decide) ?_)
        exact my_push (by omega) (Or.inl rfl) rfl (K _ _ (by simp [mq_ry, mq_op, mq_b2]))
    · rw [na, nb, if_pos rfl]
      by_cases hz : nm (p + 1) = nm p
      · refine br_t hz (br_t rfl (br_t rfl ?_))
        exact my_push (by omega) (Or.inl rfl) rfl (K _ _ (by simp [mq_ry, mq_op, mq_b2, hz]))
      · refine br_f hz (br_t rfl (br_f (by decide) ?_))
        exact my_push (by omega) (Or.inl rfl) rfl (K _ _ (by simp [mq_ry, mq_op, mq_b2, hz]))
theorem my_h30 {post : SY → Prop} {gr fu pp : Int32} {ce rc tk co ln : Nat → Int32} {nm : Nat → Int64} {nu gn : Nat → Int32} {gk gs : Nat → Int64} {p : Nat} (hp : p + 2 < 24) {a b c : Option Int64} (ha : mq_ry true (nu (p + 1)) (nm (p + 1)) a) (ta : mq_tt a) (hb : mq_ry true (nu p) (nm p) b) (tb : mq_tt b)
    (K : ∀ x y, mq_ry true x y (mq_op 30 a b c) → post (nI (p + 1), gr, fu, pp, ce, rc, tk, co, ln, vp_updL nm p y, upd nu p x, gn, gk, gs)) : wpY_apply post (nI (p + 2), gr, fu, pp, ce, rc, tk, co, ln, nm, nu, gn, gk, gs) 30 := by
  refine my_pre2 (by decide) (by decide) hp (mq_n01 hb) (mq_n01 ha) ?_
  refine br_t (by decide) (br_f (by decide) (br_t (by decide) ?_))
  refine br_t rfl ?_
  rcases mq_tcase ha ta with ⟨rfl, na, va⟩ | ⟨rfl, na, va⟩ | ⟨rfl, na, va⟩
  · rcases mq_tcase hb tb with ⟨rfl, nb, vb⟩ | ⟨rfl, nb, vb⟩ | ⟨rfl, nb, vb⟩
    · rw [va, vb]
      refine br_f (by decide) (br_f (by decide) (br_t rfl ?_))
      exact my_push (by omega) (Or.inl rfl) rfl (K _ _ (by simp [mq_ry, mq_op, mq_b2]))
    · rw [va, vb]
      refine br_f (by decide) (br_t rfl ?_)
      exact my_push (by omega) (Or.inl rfl) rfl (K _ _ (by simp [mq_ry, mq_op, mq_b2]))
    · rw [va, vb]
      refine br_f (by decide) (br_f (by decide) (br_t rfl ?_))
      exact my_push (by omega) (Or.inl rfl) rfl (K _ _ (by simp [mq_ry, mq_op, mq_b2]))
  · rcases mq_tcase hb tb with ⟨rfl, nb, vb⟩ | ⟨rfl, nb, vb⟩ | ⟨rfl, nb, vb⟩
    · rw [va, vb]
      refine br_t rfl ?_
      exact my_push (by omega) (Or.inl rfl) rfl (K _ _ (by simp [mq_ry, mq_op, mq_b2]))
    · rw [va, vb]
      refine br_t rfl ?_
      exact my_push (by omega) (Or.inl rfl) rfl (K _ _ (by simp [mq_ry, mq_op, mq_b2]))
    · rw [va, vb]
      refine br_t rfl ?_
      exact my_push (by omega) (Or.inl rfl) rfl (K _ _ (by simp [mq_ry, mq_op, mq_b2]))
  · rcases mq_tcase hb tb with ⟨rfl, nb, vb⟩ | ⟨rfl, nb, vb⟩ | ⟨rfl, nb, vb⟩
    · rw [va, vb]
      refine br_f (by decide) (br_f (by decide) (br_f (by decide) (br_t rfl ?_)))
      exact my_push (by omega) (Or.inl rfl) rfl (K _ _ (by simp [mq_ry, mq_op, mq_b2]))
    · rw [va, vb]
      refine br_f (by decide) (br_t rfl ?_)
      exact my_push (by omega) (Or.inl rfl) rfl (K _ _ (by simp [mq_ry, mq_op, mq_b2]))
    · rw [va, vb]
      refine br_f (by decide) (br_f (by decide) (br_f (by decide) (br_f (by decide) ?_)))
      exact my_push (by omega) (Or.inl rfl) rfl (K _ _ (by simp [mq_ry, mq_op, mq_b2]))
theorem my_h31 {post : SY → Prop} {gr fu pp : Int32} {ce rc tk co ln : Nat → Int32} {nm : Nat → Int64} {nu gn : Nat → Int32} {gk gs : Nat → Int64} {p : Nat} (hp : p + 2 < 24) {a b c : Option Int64} (ha : mq_ry true (nu (p + 1)) (nm (p + 1)) a) (ta : mq_tt a) (hb : mq_ry true (nu p) (nm p) b) (tb : mq_tt b)
    (K : ∀ x y, mq_ry true x y (mq_op 31 a b c) → post (nI (p + 1), gr, fu, pp, ce, rc, tk, co, ln, vp_updL nm p y, upd nu p x, gn, gk, gs)) : wpY_apply post (nI (p + 2), gr, fu, pp, ce, rc, tk, co, ln, nm, nu, gn, gk, gs) 31 := by
  refine my_pre2 (by decide) (by decide) hp (mq_n01 hb) (mq_n01 ha) ?_
  refine br_t (by decide) (br_f (by decide) (br_t (by decide) ?_))
  refine br_f (by decide) ?_
  refine br_t rfl ?_
  rcases mq_tcase ha ta with ⟨rfl, na, va⟩ | ⟨rfl, na, va⟩ | ⟨rfl, na, va⟩
  · rcases mq_tcase hb tb with ⟨rfl, nb, vb⟩ | ⟨rfl, nb, vb⟩ | ⟨rfl, nb, vb⟩
    · rw [va, vb]
      refine br_f (by decide) (br_f (by decide) (br_t rfl ?_))
      exact my_push (by omega) (Or.inl rfl) rfl (K _ _ (by simp [mq_ry, mq_op, mq_b2]))
    · rw [va, vb]
      refine br_f (by decide) (br_f (by decide) (br_t rfl ?_))
      exact my_push (by omega) (Or.inl rfl) rfl (K _ _ (by simp [mq_ry, mq_op, mq_b2]))
    · rw [va, vb]
      refine br_f (by decide) (br_t rfl ?_)
      exact my_push (by omega) (Or.inl rfl) rfl (K _ _ (by simp [mq_ry, mq_op, mq_b2]))
  · rcases mq_tcase hb tb with ⟨rfl, nb, vb⟩ | ⟨rfl, nb, vb⟩ | ⟨rfl, nb, vb⟩
    · rw [va, vb]
      refine br_f (by decide) (br_f (by decide) (br_f (by decide) (br_t rfl ?_)))
      exact my_push (by omega) (Or.inl rfl) rfl (K _ _ (by simp [mq_ry, mq_op, mq_b2]))
    · rw [va, vb]
      refine br_f (by decide) (br_f (by decide) (br_f (by decide) (br_f (by decide) ?_)))
      exact my_push (by omega) (Or.inl rfl) rfl (K _ _ (by simp [mq_ry, mq_op, mq_b2]))
    · rw [va, vb]
      refine br_f (by decide) (br_t rfl ?_)
      exact my_push (by omega) (Or.inl rfl) rfl (K _ _ (by simp [mq_ry, mq_op, mq_b2]))
  · rcases mq_tcase hb tb with ⟨rfl, nb, vb⟩ | ⟨rfl, nb, vb⟩ | ⟨rfl, nb, vb⟩
    · rw [va, vb]
      refine br_t rfl ?_
      exact my_push (by omega) (Or.inl rfl) rfl (K _ _ (by simp [mq_ry, mq_op, mq_b2]))
    · rw [va, vb]
      refine br_t rfl ?_
      exact my_push (by omega) (Or.inl rfl) rfl (K _ _ (by simp [mq_ry, mq_op, mq_b2]))
    · rw [va, vb]
      refine br_t rfl ?_
      exact my_push (by omega) (Or.inl rfl) rfl (K _ _ (by simp [mq_ry, mq_op, mq_b2]))
theorem my_h32 {post : SY → Prop} {gr fu pp : Int32} {ce rc tk co ln : Nat → Int32} {nm : Nat → Int64} {nu gn : Nat → Int32} {gk gs : Nat → Int64} {p : Nat} (hp : p + 1 < 24) {a b c : Option Int64} (ha : mq_ry true (nu p) (nm p) a) (ta : mq_tt a)
    (K : ∀ x y, mq_ry true x y (mq_op 32 a b c) → post (nI (p + 1), gr, fu, pp, ce, rc, tk, co, ln, vp_updL nm p y, upd nu p x, gn, gk, gs)) : wpY_apply post (nI (p + 1), gr, fu, pp, ce, rc, tk, co, ln, nm, nu, gn, gk, gs) 32 := by
  refine my_pre1 (by decide) (by decide) hp (mq_n01 ha) ?_
  refine br_t (by decide) (br_f (by decide) (br_t (by decide) ?_))
  refine br_f (by decide) ?_
  refine br_f (by decide) ?_
  refine br_t rfl ?_
  rcases mq_tcase ha ta with ⟨rfl, na, va⟩ | ⟨rfl, na, va⟩ | ⟨rfl, na, va⟩
  · rw [va]
    refine br_t rfl ?_
    exact my_push (by omega) (Or.inl rfl) rfl (K _ _ (by simp [mq_ry, mq_op, mq_b2]))
  · rw [va]
    refine br_f (by decide) ?_
    exact my_push (by omega) (Or.inl rfl) rfl (K _ _ (by simp [mq_ry, mq_op, mq_b2]))
  · rw [va]
    refine br_f (by decide) ?_
    exact my_push (by omega) (Or.inl rfl) rfl (K _ _ (by simp [mq_ry, mq_op, mq_b2]))
theorem my_h33 {post : SY → Prop} {gr fu pp : Int32} {ce rc tk co ln : Nat → Int32} {nm : Nat → Int64} {nu gn : Nat → Int32} {gk gs : Nat → Int64} {p : Nat} (hp : p + 1 < 24) {a b c : Option Int64} (ha : mq_ry false (nu p) (nm p) a)
    (K : ∀ x y, mq_ry true x y (mq_op 33 a b c) → post (nI (p + 1), gr, fu, pp, ce, rc, tk, co, ln, vp_updL nm p y, upd nu p x, gn, gk, gs)) : wpY_apply post (nI (p + 1), gr, fu, pp, ce, rc, tk, co, ln, nm, nu, gn, gk, gs) 33 := by
  refine my_pre1 (by decide) (by decide) hp (mq_n01 ha) ?_
  refine br_t (by decide) (br_f (by decide) (br_t (by decide) ?_))
  refine br_f (by decide) ?_
  refine br_f (by decide) ?_
  refine br_f (by decide) ?_
  refine br_t rfl ?_
  rcases mq_ncase ha with ⟨rfl, na⟩ | ⟨rfl, na⟩
  · rw [na]
    refine br_f (by decide) ?_
    exact my_push (by omega) (Or.inl rfl) rfl (K _ _ (by simp [mq_ry, mq_op, mq_b2]))
  · rw [na]
    refine br_t rfl ?_
    exact my_push (by omega) (Or.inl rfl) rfl (K _ _ (by simp [mq_ry, mq_op, mq_b2]))
theorem my_h34 {post : SY → Prop} {gr fu pp : Int32} {ce rc tk co ln : Nat → Int32} {nm : Nat → Int64} {nu gn : Nat → Int32} {gk gs : Nat → Int64} {p : Nat} (hp : p + 3 < 24) {a b c : Option Int64} (ha : mq_ry true (nu (p + 2)) (nm (p + 2)) a) (ta : mq_tt a) (hb : mq_ry false (nu (p + 1)) (nm (p + 1)) b) (hc : mq_ry false (nu p) (nm p) c)
    (K : ∀ x y, mq_ry false x y (mq_op 34 a b c) → post (nI (p + 1), gr, fu, pp, ce, rc, tk, co, ln, vp_updL nm p y, upd nu p x, gn, gk, gs)) : wpY_apply post (nI (p + 3), gr, fu, pp, ce, rc, tk, co, ln, nm, nu, gn, gk, gs) 34 := by
  refine my_pre3 (by decide) (by decide) hp (mq_n01 hc) (mq_n01 hb) (mq_n01 ha) ?_
  refine br_t (by decide) (br_f (by decide) (br_t (by decide) ?_))
  refine br_f (by decide) ?_
  refine br_f (by decide) ?_
  refine br_f (by decide) ?_
  refine br_f (by decide) ?_
  rcases mq_tcase ha ta with ⟨rfl, na, va⟩ | ⟨rfl, na, va⟩ | ⟨rfl, na, va⟩
  · rcases mq_ncase hb with ⟨rfl, nb⟩ | ⟨rfl, nb⟩
    · rcases mq_ncase hc with ⟨rfl, nc⟩ | ⟨rfl, nc⟩
      · rw [va, nb, nc]
        refine br_f (by decide) ?_
        exact my_push (by omega) (Or.inr rfl) rfl (K _ _ (by simp [mq_ry, mq_op, mq_b2]))
      · rw [va, nb, nc]
        refine br_f (by decide) ?_
        exact my_push (by omega) (Or.inl rfl) rfl (K _ _ (by simp [mq_ry, mq_op, mq_b2]))
    · rcases mq_ncase hc with ⟨rfl, nc⟩ | ⟨rfl, nc⟩
      · rw [va, nb, nc]
        refine br_f (by decide) ?_
        exact my_push (by omega) (Or.inr rfl) rfl (K _ _ (by simp [mq_ry, mq_op, mq_b2]))
      · rw [va, nb, nc]
        refine br_f (by decide) ?_
        exact my_push (by omega) (Or.inl rfl) rfl (K _ _ (by simp [mq_ry, mq_op, mq_b2]))
  · rcases mq_ncase hb with ⟨rfl, nb⟩ | ⟨rfl, nb⟩
    · rcases mq_ncase hc with ⟨rfl, nc⟩ | ⟨rfl, nc⟩
      · rw [va, nb, nc]
        refine br_f (by decide) ?_
        exact my_push (by omega) (Or.inr rfl) rfl (K _ _ (by simp [mq_ry, mq_op, mq_b2]))
      · rw [va, nb, nc]
        refine br_f (by decide) ?_
        exact my_push (by omega) (Or.inl rfl) rfl (K _ _ (by simp [mq_ry, mq_op, mq_b2]))
    · rcases mq_ncase hc with ⟨rfl, nc⟩ | ⟨rfl, nc⟩
      · rw [va, nb, nc]
        refine br_f (by decide) ?_
        exact my_push (by omega) (Or.inr rfl) rfl (K _ _ (by simp [mq_ry, mq_op, mq_b2]))
      · rw [va, nb, nc]
        refine br_f (by decide) ?_
        exact my_push (by omega) (Or.inl rfl) rfl (K _ _ (by simp [mq_ry, mq_op, mq_b2]))
  · rcases mq_ncase hb with ⟨rfl, nb⟩ | ⟨rfl, nb⟩
    · rcases mq_ncase hc with ⟨rfl, nc⟩ | ⟨rfl, nc⟩
      · rw [va, nb, nc]
        refine br_t rfl ?_
        exact my_push (by omega) (Or.inr rfl) rfl (K _ _ (by simp [mq_ry, mq_op, mq_b2]))
      · rw [va, nb, nc]
        refine br_t rfl ?_
        exact my_push (by omega) (Or.inr rfl) rfl (K _ _ (by simp [mq_ry, mq_op, mq_b2]))
    · rcases mq_ncase hc with ⟨rfl, nc⟩ | ⟨rfl, nc⟩
      · rw [va, nb, nc]
        refine br_t rfl ?_
        exact my_push (by omega) (Or.inl rfl) rfl (K _ _ (by simp [mq_ry, mq_op, mq_b2]))
      · rw [va, nb, nc]
        refine br_t rfl ?_
        exact my_push (by omega) (Or.inl rfl) rfl (K _ _ (by simp [mq_ry, mq_op, mq_b2]))
end MQ13
end
section
section MQ14
theorem mn_lt1 {a : Nat} (h : a < 2 ^ 31) : nI a + (-1) < nI a := by
  by_cases h0 : a = 0
  · subst h0
    decide
  · rw [mn_m (by omega)]
    exact nI_lt (by omega) h
theorem mq_tk6 {t : Int32} (h : t ∈ mq_tk) : (6 ≤ t) ↔ ¬ t ≤ 5 := by
  revert t
  decide +kernel
/-! a column -/
theorem my_lf {post : SY → Prop} {J : Int32 → Int32 → Int32 → Int32 → Int32 → (Nat → Int32) → (Nat → Int32) → (Nat → Int32) → (Nat → Int32) → (Nat → Int32) → (Nat → Int64) → (Nat → Int32) → (Nat → Int32) → (Nat → Int64) → (Nat → Int64) → Prop} {gr fu pp : Int32} {ce rc tk co ln : Nat → Int32} {nm : Nat → Int64} {nu gn : Nat → Int32} {gk gs : Nat → Int64} {x1 x2 x3 x4 : Int32} {p k : Nat} {v : Int32} (hp : p < 24) (hk : k < 96) (hv : ce k = v)
    (K : ∀ x y, mq_ry false x y (mq_lf v) → J (x4 + (-1)) (nI (p + 1)) gr fu pp ce rc tk co ln (vp_updL nm p y) (upd nu p x) gn gk gs) : wY_evaluate_79 post J x1 x2 x3 x4 (nI k) (nI p) gr fu pp ce rc tk co ln nm nu gn gk gs := by
  have c1 : (nI k).toNatClampNeg = k := nI_clamp (by omega)
  have i1 : vp_in (nI k) 96 := vp_in_nI hk (by decide)
  refine br_f (nI_pos (by omega)) ⟨i1, ?_⟩
  rw [c1, hv]
  unfold mq_lf at K
  by_cases hm : v = -2147483648
  · rw [if_pos hm] at K
    refine br_t hm (br_f (by decide) ?_)
    unfold wY_evaluate_123
    refine my_push hp (Or.inr rfl) rfl ?_
    exact nm_e (K _ _ ⟨rfl, rfl⟩)
  · rw [if_neg hm] at K
    refine br_f hm (br_t rfl ⟨i1, ?_⟩)
    rw [c1, hv]
    unfold wY_evaluate_123
    refine my_push hp (Or.inl rfl) rfl ?_
    exact nm_e (K _ _ ⟨rfl, rfl⟩)
theorem my_lfm {post : SY → Prop} {J : Int32 → Int32 → Int32 → Int32 → Int32 → (Nat → Int32) → (Nat → Int32) → (Nat → Int32) → (Nat → Int32) → (Nat → Int32) → (Nat → Int64) → (Nat → Int32) → (Nat → Int32) → (Nat → Int64) → (Nat → Int64) → Prop} {gr fu pp : Int32} {ce rc tk co ln : Nat → Int32} {nm : Nat → Int64} {nu gn : Nat → Int32} {gk gs : Nat → Int64} {x1 x2 x3 x4 : Int32} {p : Nat} {v : Int32} (hp : p < 24) (hv : v = -2147483648)
    (K : ∀ x y, mq_ry false x y (mq_lf v) → J (x4 + (-1)) (nI (p + 1)) gr fu pp ce rc tk co ln (vp_updL nm p y) (upd nu p x) gn gk gs) : wY_evaluate_79 post J x1 x2 x3 x4 (-1) (nI p) gr fu pp ce rc tk co ln nm nu gn gk gs := by
  unfold mq_lf at K
  rw [if_pos hv] at K
  refine br_t (by decide) (br_f (by decide) ?_)
  unfold wY_evaluate_123
  refine my_push hp (Or.inr rfl) rfl ?_
  exact nm_e (K _ _ ⟨rfl, rfl⟩)
theorem my_ev20 {post : SY → Prop} {gr fu pp : Int32} {ce rc tk co ln : Nat → Int32} {gn : Nat → Int32} {gk gs : Nat → Int64} {V W P : Nat → Int32} {e len i : Nat} {x3 : Int32} (he : e < 4) (hl : len ≤ 20) (ht : ∀ i, i < len → tk (20 * e + i) = V i ∧ co (20 * e + i) = W i) (hV : ∀ i, i < len → V i ∈ mq_tk) (hok : ∀ d, d < len → mq_ok V len d)
    (hi : i < 16) (hc1 : ∀ c, c < 3 → ce (3 * i + c) = P c) (hc2 : (∃ j, j < 16 ∧ x3 = nI j ∧ ∀ c, 3 ≤ c → c < 6 → ce (48 + 3 * j + c - 3) = P c) ∨ (x3 = -1 ∧ ∀ c, 3 ≤ c → c < 6 → P c = -2147483648))
    (K : ∀ tp nm nu, mq_SY nu nm (mq_h V len len) (mq_k V len len) (mq_v V W P len len) → post (tp, gr, fu, pp, ce, rc, tk, co, ln, nm, nu, gn, gk, gs)) :
    ∀ r d, r + d = len → ∀ nm nu, mq_SY nu nm (mq_h V len d) (mq_k V len d) (mq_v V W P len d) → wY_evaluate_20 post (nI e) (nI i) x3 (r + 1) (nI (20 * e + r) + (-1)) (nI (mq_h V len d)) gr fu pp ce rc tk co ln nm nu gn gk gs := by
  intro r
  induction r with
  | zero =>
    intro d hd nm nu HS
    have hd : d = len := by omega
    subst hd
    exact br_t (by rw [mi_20']; exact mn_lt1 (by omega)) (K _ nm nu HS)
  | succ r ih =>
    intro d hd nm nu HS
    have er : len - 1 - d = r := by omega
    have hle := mq_h_le V len d
    have ha3 := mq_ar3 (V r)
    have hokd := hok d (by omega)
    unfold mq_ok at hokd
    rw [er] at hokd
    obtain ⟨ha, hw⟩ := hokd
    have hty := mq_ty (C := W) (P := P) hV d (by omega)
    have hs : mq_h V len (d + 1) = mq_h V len d - mq_ar (V r) + 1 := by rw [mq_h_s, er]
    have hks : mq_k V len (d + 1) = fun j => if j = mq_h V len d - mq_ar (V r) then mq_tr (V r) else mq_k V len d j := by
      funext j
      show (if j = mq_h V len d - mq_ar (V (len - 1 - d)) then mq_tr (V (len - 1 - d)) else mq_k V len d j) = _
      rw [er]
    have hvs : mq_v V W P len (d + 1) = fun j => if j = mq_h V len d - mq_ar (V r) then mq_val (V r) (W r) P (mq_v V W P len d (mq_h V len d - 1)) (mq_v V W P len d (mq_h V len d - 2)) (mq_v V W P len d (mq_h V len d - 3)) else mq_v V W P len d j := by
      funext j
      show (if j = mq_h V len d - mq_ar (V (len - 1 - d)) then mq_val (V (len - 1 - d)) (W (len - 1 - d)) P _ _ _ else mq_v V W P len d j) = _
      rw [er]
    have hpush : ∀ x y, mq_ry (mq_tr (V r)) x y (mq_val (V r) (W r) P (mq_v V W P len d (mq_h V len d - 1)) (mq_v V W P len d (mq_h V len d - 2)) (mq_v V W P len d (mq_h V len d - 3))) →
        wY_evaluate_20 post (nI e) (nI i) x3 (r + 1) (nI (20 * e + r) + (-1)) (nI (mq_h V len d - mq_ar (V r) + 1)) gr fu pp ce rc tk co ln (vp_updL nm (mq_h V len d - mq_ar (V r)) y) (upd nu (mq_h V len d - mq_ar (V r)) x) gn gk gs := by
      intro x y hxy
      have h2 := ih (d + 1) (by omega) (vp_updL nm (mq_h V len d - mq_ar (V r)) y) (upd nu (mq_h V len d - mq_ar (V r)) x) (by rw [hs, hks, hvs]; exact mq_sy_p HS (by omega) hxy)
      rw [hs] at h2
      exact h2
    rw [← Nat.add_assoc, pk_m1]
    refine br_f (by rw [mi_20']; exact nI_nlt (by omega) (by omega)) ?_
    have htr := ht r (by omega)
    rw [nI_clamp (by omega), htr.1, htr.2]
    refine ⟨vp_in_nI (by omega) (by decide), nm_e ?_⟩
    have i4 : vp_in (nI (20 * e + r)) 80 := vp_in_nI (by omega) (by decide)
    have hVr := hV r (by omega)
    generalize mq_v V W P len d = v at HS hpush hty
    generalize mq_k V len d = k at HS hw hty
    generalize mq_h V len d = h at HS hpush hle ha hw
    generalize V r = t at hpush hVr ha ha3 hw
    generalize W r = cc at hpush
    obtain ⟨q, hq⟩ : ∃ q, h - mq_ar t = q := ⟨_, rfl⟩
    rw [hq] at hpush
    by_cases c5 : t ≤ 5
    · refine br_f (fun z => (mq_tk6 hVr).mp z c5) ?_
      have e0 : mq_ar t = 0 := by unfold mq_ar; rw [if_pos (Or.inl c5)]
      have etr : mq_tr t = false := by
        unfold mq_tr
        rw [decide_eq_false (fun z => absurd (Int32.le_trans z c5) (by decide))]
        rfl
      have c40 : ¬ t = 40 := fun z => by rw [z] at c5; exact absurd c5 (by decide)
      rw [e0] at hq
      have hq : h = q := by omega
      subst hq
      obtain ⟨c, hc, ec⟩ := mq_tk5 hVr c5
      have hval : ∀ x y z, mq_val t cc P x y z = mq_lf (P c) := by
        intro x y z
        unfold mq_val
        rw [if_neg c40, if_pos c5, ec, nI_clamp (by omega)]
      have KK : ∀ x y, mq_ry false x y (mq_lf (P c)) → wY_evaluate_20 post (nI e) (nI i) x3 (r + 1) (nI (20 * e + r) + (-1)) (nI (h + 1)) gr fu pp ce rc tk co ln (vp_updL nm h y) (upd nu h x) gn gk gs := fun x y hxy => hpush x y (by rw [hval, etr]; exact hxy)
      by_cases c3 : 3 ≤ c
      · refine br_t (by rw [ec]; exact nI_le (a := 3) c3 (by omega)) ?_
        rcases hc2 with ⟨j, hj, ej, hcj⟩ | ⟨ej, hcj⟩
        · refine br_t (by rw [ej]; exact nI_pos' (by omega)) ?_
          have e6 : 48 + 3 * x3 + t - 3 = nI (48 + 3 * j + c - 3) := by
            rw [ej, ec, mi_3', show (48 : Int32) = nI 48 from rfl, nI_add, nI_add, show (3 : Int32) = nI 3 from rfl, pk_sub (by omega)]
          rw [e6]
          exact my_lf (by omega) (by omega) (hcj c c3 hc) KK
        · refine br_f (by rw [ej]; decide) ?_
          exact my_lfm (by omega) (hcj c c3 hc) KK
      · refine br_f (by rw [ec]; exact nI_ge (b := 3) (by omega) (by decide)) ?_
        have e6 : 3 * nI i + t = nI (3 * i + c) := by rw [ec, mi_3', nI_add]
        rw [e6]
        exact my_lf (by omega) (by omega) (hc1 c (by omega)) KK
    · refine br_t ((mq_tk6 hVr).mpr c5) ?_
      by_cases c40 : t = 40
      · have e0 : mq_ar t = 0 := by unfold mq_ar; rw [if_pos (Or.inr c40)]
        have etr : mq_tr t = false := by rw [c40]; decide
        rw [e0] at hq
        have hq : h = q := by omega
        subst hq
        refine br_t c40 ⟨i4, i4, ?_⟩
        have KK : ∀ x y, mq_ry false x y (mq_lf cc) → wY_evaluate_20 post (nI e) (nI i) x3 (r + 1) (nI (20 * e + r) + (-1)) (nI (h + 1)) gr fu pp ce rc tk co ln (vp_updL nm h y) (upd nu h x) gn gk gs := fun x y hxy => hpush x y (by unfold mq_val; rw [if_pos c40, etr]; exact hxy)
        unfold mq_lf at KK
        by_cases hm : cc = -2147483648
        · rw [if_pos hm] at KK
          refine br_t hm ?_
          unfold wY_evaluate_164
          refine my_push (by omega) (Or.inr rfl) rfl ?_
          exact nm_e (KK _ _ ⟨rfl, rfl⟩)
        · rw [if_neg hm] at KK
          refine br_f hm ?_
          unfold wY_evaluate_164
          refine my_push (by omega) (Or.inl rfl) rfl ?_
          exact nm_e (KK _ _ ⟨rfl, rfl⟩)
      · refine br_f c40 ?_
        have hval : ∀ x y z, mq_val t cc P x y z = mq_op t x y z := by
          intro x y z
          unfold mq_val
          rw [if_neg c40, if_neg c5]
        rcases mq_opc hVr c40 c5 with rfl | rfl | rfl | rfl | rfl | rfl | rfl | rfl | rfl | rfl | rfl | rfl | rfl | rfl | rfl | rfl
        · have e2 : mq_ar 10 = 2 := by decide
          rw [e2] at ha hq hw
          obtain ⟨p, rfl⟩ : ∃ p, h = p + 2 := ⟨h - 2, by omega⟩
          have hq : q = p := by omega
          subst hq
          have k0 : k (q + 1) = false := by
            have h9 := hw 0 (by omega)
            rw [show mq_wt 10 0 = false from by decide] at h9
            exact h9
          have r0 := HS (q + 1) (by omega)
          rw [k0] at r0
          have k1 : k q = false := by
            have h9 := hw 1 (by omega)
            rw [show mq_wt 10 1 = false from by decide] at h9
            exact h9
          have r1 := HS q (by omega)
          rw [k1] at r1
          refine my_h10 (c := v (q + 2 - 3)) (by omega) r0 r1 ?_
          intro x y hxy
          exact nm_e (hpush x y (by rw [hval, show mq_tr 10 = false from by decide]; exact hxy))
        · have e2 : mq_ar 11 = 2 := by decide
          rw [e2] at ha hq hw
          obtain ⟨p, rfl⟩ : ∃ p, h = p + 2 := ⟨h - 2, by omega⟩
          have hq : q = p := by omega
          subst hq
          have k0 : k (q + 1) = false := by
            have h9 := hw 0 (by omega)
            rw [show mq_wt 11 0 = false from by decide] at h9
            exact h9
          have r0 := HS (q + 1) (by omega)
          rw [k0] at r0
          have k1 : k q = false := by
            have h9 := hw 1 (by omega)
            rw [show mq_wt 11 1 = false from by decide] at h9
            exact h9
          have r1 := HS q (by omega)
          rw [k1] at r1
          refine my_h11 (c := v (q + 2 - 3)) (by omega) r0 r1 ?_
          intro x y hxy
          exact nm_e (hpush x y (by rw [hval, show mq_tr 11 = false from by decide]; exact hxy))
        · have e2 : mq_ar 12 = 2 := by decide
          rw [e2] at ha hq hw
          obtain ⟨p, rfl⟩ : ∃ p, h = p + 2 := ⟨h - 2, by omega⟩
          have hq : q = p := by omega
          subst hq
          have k0 : k (q + 1) = false := by
            have h9 := hw 0 (by omega)
            rw [show mq_wt 12 0 = false from by decide] at h9
            exact h9
          have r0 := HS (q + 1) (by omega)
          rw [k0] at r0
          have k1 : k q = false := by
            have h9 := hw 1 (by omega)
            rw [show mq_wt 12 1 = false from by decide] at h9
            exact h9
          have r1 := HS q (by omega)
          rw [k1] at r1
          refine my_h12 (c := v (q + 2 - 3)) (by omega) r0 r1 ?_
          intro x y hxy
          exact nm_e (hpush x y (by rw [hval, show mq_tr 12 = false from by decide]; exact hxy))
        · have e2 : mq_ar 13 = 2 := by decide
          rw [e2] at ha hq hw
          obtain ⟨p, rfl⟩ : ∃ p, h = p + 2 := ⟨h - 2, by omega⟩
          have hq : q = p := by omega
          subst hq
          have k0 : k (q + 1) = false := by
            have h9 := hw 0 (by omega)
            rw [show mq_wt 13 0 = false from by decide] at h9
            exact h9
          have r0 := HS (q + 1) (by omega)
          rw [k0] at r0
          have k1 : k q = false := by
            have h9 := hw 1 (by omega)
            rw [show mq_wt 13 1 = false from by decide] at h9
            exact h9
          have r1 := HS q (by omega)
          rw [k1] at r1
          refine my_h13 (c := v (q + 2 - 3)) (by omega) r0 r1 ?_
          intro x y hxy
          exact nm_e (hpush x y (by rw [hval, show mq_tr 13 = false from by decide]; exact hxy))
        · have e2 : mq_ar 14 = 2 := by decide
          rw [e2] at ha hq hw
          obtain ⟨p, rfl⟩ : ∃ p, h = p + 2 := ⟨h - 2, by omega⟩
          have hq : q = p := by omega
          subst hq
          have k0 : k (q + 1) = false := by
            have h9 := hw 0 (by omega)
            rw [show mq_wt 14 0 = false from by decide] at h9
            exact h9
          have r0 := HS (q + 1) (by omega)
          rw [k0] at r0
          have k1 : k q = false := by
            have h9 := hw 1 (by omega)
            rw [show mq_wt 14 1 = false from by decide] at h9
            exact h9
          have r1 := HS q (by omega)
          rw [k1] at r1
          refine my_h14 (c := v (q + 2 - 3)) (by omega) r0 r1 ?_
          intro x y hxy
          exact nm_e (hpush x y (by rw [hval, show mq_tr 14 = false from by decide]; exact hxy))
        · have e2 : mq_ar 15 = 1 := by decide
          rw [e2] at ha hq hw
          obtain ⟨p, rfl⟩ : ∃ p, h = p + 1 := ⟨h - 1, by omega⟩
          have hq : q = p := by omega
          subst hq
          have k0 : k q = false := by
            have h9 := hw 0 (by omega)
            rw [show mq_wt 15 0 = false from by decide] at h9
            exact h9
          have r0 := HS q (by omega)
          rw [k0] at r0
          refine my_h15 (b := v (q + 1 - 2)) (c := v (q + 1 - 3)) (by omega) r0 ?_
          intro x y hxy
          exact nm_e (hpush x y (by rw [hval, show mq_tr 15 = false from by decide]; exact hxy))
        · have e2 : mq_ar 16 = 2 := by decide
          rw [e2] at ha hq hw
          obtain ⟨p, rfl⟩ : ∃ p, h = p + 2 := ⟨h - 2, by omega⟩
          have hq : q = p := by omega
          subst hq
          have k0 : k (q + 1) = false := by
            have h9 := hw 0 (by omega)
            rw [show mq_wt 16 0 = false from by decide] at h9
            exact h9
          have r0 := HS (q + 1) (by omega)
          rw [k0] at r0
          have k1 : k q = false := by
            have h9 := hw 1 (by omega)
            rw [show mq_wt 16 1 = false from by decide] at h9
            exact h9
          have r1 := HS q (by omega)
          rw [k1] at r1
          refine my_h16 (c := v (q + 2 - 3)) (by omega) r0 r1 ?_
          intro x y hxy
          exact nm_e (hpush x y (by rw [hval, show mq_tr 16 = false from by decide]; exact hxy))
        · have e2 : mq_ar 20 = 2 := by decide
          rw [e2] at ha hq hw
          obtain ⟨p, rfl⟩ : ∃ p, h = p + 2 := ⟨h - 2, by omega⟩
          have hq : q = p := by omega
          subst hq
          have k0 : k (q + 1) = false := by
            have h9 := hw 0 (by omega)
            rw [show mq_wt 20 0 = false from by decide] at h9
            exact h9
          have r0 := HS (q + 1) (by omega)
          rw [k0] at r0
          have k1 : k q = false := by
            have h9 := hw 1 (by omega)
            rw [show mq_wt 20 1 = false from by decide] at h9
            exact h9
          have r1 := HS q (by omega)
          rw [k1] at r1
          refine my_h20 (c := v (q + 2 - 3)) (by omega) r0 r1 ?_
          intro x y hxy
          exact nm_e (hpush x y (by rw [hval, show mq_tr 20 = true from by decide]; exact hxy))
        · have e2 : mq_ar 21 = 2 := by decide
          rw [e2] at ha hq hw
          obtain ⟨p, rfl⟩ : ∃ p, h = p + 2 := ⟨h - 2, by omega⟩
          have hq : q = p := by omega
          subst hq
          have k0 : k (q + 1) = false := by
            have h9 := hw 0 (by omega)
            rw [show mq_wt 21 0 = false from by decide] at h9
            exact h9
          have r0 := HS (q + 1) (by omega)
          rw [k0] at r0
          have k1 : k q = false := by
            have h9 := hw 1 (by omega)
            rw [show mq_wt 21 1 = false from by decide] at h9
            exact h9
          have r1 := HS q (by omega)
          rw [k1] at r1
          refine my_h21 (c := v (q + 2 - 3)) (by omega) r0 r1 ?_
          intro x y hxy
          exact nm_e (hpush x y (by rw [hval, show mq_tr 21 = true from by decide]; exact hxy))
        · have e2 : mq_ar 22 = 2 := by decide
          rw [e2] at ha hq hw
          obtain ⟨p, rfl⟩ : ∃ p, h = p + 2 := ⟨h - 2, by omega⟩
          have hq : q = p := by omega
          subst hq
          have k0 : k (q + 1) = false := by
            have h9 := hw 0 (by omega)
            rw [show mq_wt 22 0 = false from by decide] at h9
            exact h9
          have r0 := HS (q + 1) (by omega)
          rw [k0] at r0
          have k1 : k q = false := by
            have h9 := hw 1 (by omega)
            rw [show mq_wt 22 1 = false from by decide] at h9
            exact h9
          have r1 := HS q (by omega)
          rw [k1] at r1
          refine my_h22 (c := v (q + 2 - 3)) (by omega) r0 r1 ?_
          intro x y hxy
          exact nm_e (hpush x y (by rw [hval, show mq_tr 22 = true from by decide]; exact hxy))
        · have e2 : mq_ar 23 = 2 := by decide
          rw [e2] at ha hq hw
          obtain ⟨p, rfl⟩ : ∃ p, h = p + 2 := ⟨h - 2, by omega⟩
          have hq : q = p := by omega
          subst hq
          have k0 : k (q + 1) = false := by
            have h9 := hw 0 (by omega)
            rw [show mq_wt 23 0 = false from by decide] at h9
            exact h9
          have r0 := HS (q + 1) (by omega)
          rw [k0] at r0
          have k1 : k q = false := by
            have h9 := hw 1 (by omega)
            rw [show mq_wt 23 1 = false from by decide] at h9
            exact h9
          have r1 := HS q (by omega)
          rw [k1] at r1
          refine my_h23 (c := v (q + 2 - 3)) (by omega) r0 r1 ?_
          intro x y hxy
          exact nm_e (hpush x y (by rw [hval, show mq_tr 23 = true from by decide]; exact hxy))
        · have e2 : mq_ar 30 = 2 := by decide
          rw [e2] at ha hq hw
          obtain ⟨p, rfl⟩ : ∃ p, h = p + 2 := ⟨h - 2, by omega⟩
          have hq : q = p := by omega
          subst hq
          have k0 : k (q + 1) = true := by
            have h9 := hw 0 (by omega)
            rw [show mq_wt 30 0 = true from by decide] at h9
            exact h9
          have r0 := HS (q + 1) (by omega)
          rw [k0] at r0
          have k1 : k q = true := by
            have h9 := hw 1 (by omega)
            rw [show mq_wt 30 1 = true from by decide] at h9
            exact h9
          have r1 := HS q (by omega)
          rw [k1] at r1
          refine my_h30 (c := v (q + 2 - 3)) (by omega) r0 (hty (q + 1) k0) r1 (hty q k1) ?_
          intro x y hxy
          exact nm_e (hpush x y (by rw [hval, show mq_tr 30 = true from by decide]; exact hxy))
        · have e2 : mq_ar 31 = 2 := by decide
          rw [e2] at ha hq hw
          obtain ⟨p, rfl⟩ : ∃ p, h = p + 2 := ⟨h - 2, by omega⟩
          have hq : q = p := by omega
          subst hq
          have k0 : k (q + 1) = true := by
            have h9 := hw 0 (by omega)
            rw [show mq_wt 31 0 = true from by decide] at h9
            exact h9
          have r0 := HS (q + 1) (by omega)
          rw [k0] at r0
          have k1 : k q = true := by
            have h9 := hw 1 (by omega)
            rw [show mq_wt 31 1 = true from by decide] at h9
            exact h9
          have r1 := HS q (by omega)
          rw [k1] at r1
          refine my_h31 (c := v (q + 2 - 3)) (by omega) r0 (hty (q + 1) k0) r1 (hty q k1) ?_
          intro x y hxy
          exact nm_e (hpush x y (by rw [hval, show mq_tr 31 = true from by decide]; exact hxy))
        · have e2 : mq_ar 32 = 1 := by decide
          rw [e2] at ha hq hw
          obtain ⟨p, rfl⟩ : ∃ p, h = p + 1 := ⟨h - 1, by omega⟩
          have hq : q = p := by omega
          subst hq
          have k0 : k q = true := by
            have h9 := hw 0 (by omega)
            rw [show mq_wt 32 0 = true from by decide] at h9
            exact h9
          have r0 := HS q (by omega)
          rw [k0] at r0
          refine my_h32 (b := v (q + 1 - 2)) (c := v (q + 1 - 3)) (by omega) r0 (hty q k0) ?_
          intro x y hxy
          exact nm_e (hpush x y (by rw [hval, show mq_tr 32 = true from by decide]; exact hxy))
        · have e2 : mq_ar 33 = 1 := by decide
          rw [e2] at ha hq hw
          obtain ⟨p, rfl⟩ : ∃ p, h = p + 1 := ⟨h - 1, by omega⟩
          have hq : q = p := by omega
          subst hq
          have k0 : k q = false := by
            have h9 := hw 0 (by omega)
            rw [show mq_wt 33 0 = false from by decide] at h9
            exact h9
          have r0 := HS q (by omega)
          rw [k0] at r0
          refine my_h33 (b := v (q + 1 - 2)) (c := v (q + 1 - 3)) (by omega) r0 ?_
          intro x y hxy
          exact nm_e (hpush x y (by rw [hval, show mq_tr 33 = true from by decide]; exact hxy))
        · have e2 : mq_ar 34 = 3 := by decide
          rw [e2] at ha hq hw
          obtain ⟨p, rfl⟩ : ∃ p, h = p + 3 := ⟨h - 3, by omega⟩
          have hq : q = p := by omega
          subst hq
          have k0 : k (q + 2) = true := by
            have h9 := hw 0 (by omega)
            rw [show mq_wt 34 0 = true from by decide] at h9
            exact h9
          have r0 := HS (q + 2) (by omega)
          rw [k0] at r0
          have k1 : k (q + 1) = false := by
            have h9 := hw 1 (by omega)
            rw [show mq_wt 34 1 = false from by decide] at h9
            exact h9
          have r1 := HS (q + 1) (by omega)
          rw [k1] at r1
          have k2 : k q = false := by
            have h9 := hw 2 (by omega)
            rw [show mq_wt 34 2 = false from by decide] at h9
            exact h9
          have r2 := HS q (by omega)
          rw [k2] at r2
          refine my_h34  (by omega) r0 (hty (q + 2) k0) r1 r2 ?_
          intro x y hxy
          exact nm_e (hpush x y (by rw [hval, show mq_tr 34 = false from by decide]; exact hxy))
theorem my_ev {post : SY → Prop} {tp gr fu pp : Int32} {ce rc tk co ln : Nat → Int32} {nm : Nat → Int64} {nu gn : Nat → Int32} {gk gs : Nat → Int64} {m : Nat → Nat} {T C : Nat → Nat → Int32} {P : Nat → Int32} {e i : Nat} {x3 : Int32} {b : Bool} (hE : mq_EX m T C tk co ln) (he : e < 4) (hV : ∀ i, i < m e → T e i ∈ mq_tk) (hW : mq_WK (T e) (m e) b)
    (hi : i < 16) (hc1 : ∀ c, c < 3 → ce (3 * i + c) = P c) (hc2 : (∃ j, j < 16 ∧ x3 = nI j ∧ ∀ c, 3 ≤ c → c < 6 → ce (48 + 3 * j + c - 3) = P c) ∨ (x3 = -1 ∧ ∀ c, 3 ≤ c → c < 6 → P c = -2147483648))
    (K : ∀ tp nm nu, mq_ry b (nu 0) (nm 0) (mq_ev (T e) (C e) P (m e)) → (b = true → mq_tt (mq_ev (T e) (C e) P (m e))) → post (tp, gr, fu, pp, ce, rc, tk, co, ln, nm, nu, gn, gk, gs)) : wpY_evaluate post (tp, gr, fu, pp, ce, rc, tk, co, ln, nm, nu, gn, gk, gs) (nI e) (nI i) x3 := by
  have h1 := hE.1 e he
  refine ⟨vp_in_nI he (by decide), ?_⟩
  rw [nI_clamp (by omega), h1.2, mi_20', nI_add, mn_ns]
  refine nm_e ⟨m e + 1, ?_⟩
  refine my_ev20 (V := T e) (W := C e) (P := P) (len := m e) he h1.1 (hE.2 e he) hV hW.1 hi hc1 hc2 ?_ (m e) 0 rfl nm nu (fun j hj => absurd hj (Nat.not_lt_zero j))
  intro tp nm nu HS
  rw [hW.2.1] at HS
  have h0 := HS 0 (by decide)
  rw [hW.2.2] at h0
  refine K tp nm nu h0 ?_
  intro hb
  exact mq_ty hV (m e) (Nat.le_refl _) 0 (by rw [hW.2.2]; exact hb)
end MQ14
end
section
section MQ15
theorem mi_70 (a : Nat) : nI a * 7 + 0 = nI (a * 7) := by rw [mi_7]; exact mi_a (a * 7) 0
theorem mi_7k (a k : Nat) {x : Int32} (hx : x = nI k := by rfl) : nI a * 7 + x = nI (a * 7 + k) := by rw [mi_7, hx, nI_add]
theorem mx_cb {post : Int32 → Prop} {gc pc tm : Int32} {ce rc tk co ln ki : Nat → Int32} {nm : Nat → Int64} {nu pr : Nat → Int32} {fa : Nat → Int64} {k q : Option Int64} {g : Nat} (hg : g < 12) (h0 : fa (g * 7) = mq_kn k) (h1 : fa (g * 7 + 1) = mq_kv k) (K : post (mq_b1 (mq_lt k q))) : wpX_comesBefore post (gc, pc, tm, ce, rc, tk, co, ln, ki, nm, nu, pr, fa) (nI g) (mq_kb q) (mq_kv q) := by
  cases q with
  | none =>
    refine br_f (by decide) ?_
    cases k with
    | none => exact K
    | some x => exact K
  | some y =>
    refine br_t rfl ?_
    rw [mi_70, mi_7k g 1, nI_clamp (by omega), nI_clamp (by omega), h0, h1]
    refine ⟨vp_in_nI (by omega) (by decide), ?_⟩
    cases k with
    | none => exact br_t rfl K
    | some x =>
      refine br_f (by show ¬ (0 : Int64) = 1; decide) ⟨vp_in_nI (by omega) (by decide), ?_⟩
      by_cases c : y ≤ x
      · have e : mq_lt (some x) (some y) = false := decide_eq_false (Int64.not_lt.mpr c)
        rw [e] at K
        exact br_t c K
      · have e : mq_lt (some x) (some y) = true := decide_eq_true (Int64.not_le.mp c)
        rw [e] at K
        exact br_f c K
theorem mx_hk {post : Int32 → Prop} {gc pc tm : Int32} {ce rc tk co ln ki : Nat → Int32} {nm : Nat → Int64} {nu pr : Nat → Int32} {fa : Nat → Int64} {k q : Option Int64} {g : Nat} (hg : g < 12) (h0 : fa (g * 7) = mq_kn k) (h1 : fa (g * 7 + 1) = mq_kv k) (K1 : k = q → post 1) (K0 : ¬ k = q → post 0) : wpX_hasKey post (gc, pc, tm, ce, rc, tk, co, ln, ki, nm, nu, pr, fa) (nI g) (mq_kb q) (mq_kv q) := by
  have q21 : wX_hasKey_21 post (nI g) (mq_kb q) (mq_kv q) (mq_kb k) gc pc tm ce rc tk co ln ki nm nu pr fa := by
    have e1 : nI g * 7 + 1 = nI (g * 7 + 1) := mi_7k g 1
    have c1 : (nI (g * 7 + 1)).toNatClampNeg = g * 7 + 1 := nI_clamp (by omega)
    have i1 : vp_in (nI (g * 7 + 1)) 84 := vp_in_nI (by omega) (by decide)
    cases k with
    | none =>
      cases q with
      | none =>
        refine br_t rfl ?_
        rw [e1, c1, h1]
        exact ⟨i1, br_t rfl (K1 rfl)⟩
      | some y => exact br_f (by show ¬ (1 : Int32) = 0; decide) (K0 (fun z => nomatch z))
    | some x =>
      cases q with
      | none => exact br_f (by show ¬ (0 : Int32) = 1; decide) (K0 (fun z => nomatch z))
      | some y =>
        refine br_t rfl ?_
        rw [e1, c1, h1]
        refine ⟨i1, ?_⟩
        by_cases c : x = y
        · exact br_t c (K1 (congrArg some c))
        · exact br_f c (K0 (fun z => c (Option.some.inj z)))
  unfold wpX_hasKey
  dsimp only
  rw [mi_70, nI_clamp (by omega), h0]
  refine ⟨vp_in_nI (by omega) (by decide), ?_⟩
  cases k with
  | none => exact br_t rfl q21
  | some x => exact br_f (by show ¬ (0 : Int64) = 1; decide) q21
theorem mx_og50 {post : SX → Prop} {gc pc tm : Int32} {ce rc tk co ln ki : Nat → Int32} {nm : Nat → Int64} {nu pr : Nat → Int32} {fa : Nat → Int64} {p n : Nat} {q : Option Int64} (hp : p ≤ n) (hn : n < 12) (hgc : gc = nI n)
    (K : post (nI (n + 1), pc, tm, ce, rc, tk, co, ln, ki, nm, nu, pr, vp_updL (vp_updL (mq_xz fa (p * 7) 7) (p * 7) (mq_kn q)) (p * 7 + 1) (mq_kv q))) :
    ∀ d k, k + d = 7 → wX_openGroup_50 post (mq_kb q) (mq_kv q) (nI (p * 7)) gc pc tm (d + 1) (nI k) ce rc tk co ln ki nm nu pr (mq_xz fa (p * 7) k) := by
  intro d
  induction d with
  | zero =>
    intro k e
    have e : k = 7 := by omega
    subst e
    refine br_t (by decide) ?_
    have q91 : wX_openGroup_91 post (mq_kv q) (nI (p * 7)) (mq_kn q) (nI (p * 7) + 0) gc pc tm ce rc tk co ln ki nm nu pr (mq_xz fa (p * 7) 7) := by
      unfold wX_openGroup_91
      rw [mi_a (p * 7) 0, Nat.add_zero, nI_1, nI_clamp (by omega), nI_clamp (by omega), hgc, nI_1]
      exact ⟨vp_in_nI (by omega) (by decide), nm_e ⟨vp_in_nI (by omega) (by decide), nm_e (nm_e K)⟩⟩
    cases q with
    | none => exact br_f (by decide) q91
    | some y => exact br_t rfl q91
  | succ d ih =>
    intro k e
    refine br_f (nI_ge (b := 7) (by omega) (by decide)) ?_
    rw [nI_add, nI_clamp (by omega), mq_xz_s]
    exact ⟨vp_in_nI (by omega) (by decide), nm_e (nm_r (nI_1 k) (ih (k + 1) (by omega)))⟩
theorem mx_og17 {post : SX → Prop} {gc pc tm : Int32} {ce rc tk co ln ki : Nat → Int32} {nm : Nat → Int64} {nu pr : Nat → Int32} {fa : Nat → Int64} {p n : Nat} {q : Option Int64} (hp : p ≤ n) (hn : n < 12) (hgc : gc = nI n)
    (K : post (nI (n + 1), pc, tm, ce, rc, tk, co, ln, ki, nm, nu, pr, vp_updL (vp_updL (mq_xz (mq_xs fa (p * 7) (n * 7)) (p * 7) 7) (p * 7) (mq_kn q)) (p * 7 + 1) (mq_kv q))) :
    ∀ d f, f = p * 7 + d → f ≤ n * 7 → wX_openGroup_17 post (mq_kb q) (mq_kv q) (nI (p * 7)) gc pc tm (d + 1) (nI f + (-1)) ce rc tk co ln ki nm nu pr (mq_xs fa f (n * 7)) := by
  intro d
  induction d with
  | zero =>
    intro f e hf
    have e : f = p * 7 := by omega
    subst e
    refine br_t (mn_lt1 (by omega)) ⟨8, ?_⟩
    have h := mx_og50 (post := post) (gc := gc) (pc := pc) (tm := tm) (ce := ce) (rc := rc) (tk := tk) (co := co) (ln := ln) (ki := ki) (nm := nm) (nu := nu) (pr := pr) (fa := mq_xs fa (p * 7) (n * 7)) (q := q) hp hn hgc K 7 0 rfl
    rw [mq_xz_0] at h
    exact h
  | succ d ih =>
    intro f e hf
    obtain ⟨f, rfl⟩ : ∃ f', f = f' + 1 := ⟨f - 1, by omega⟩
    rw [pk_m1]
    refine br_f (nI_nlt (by omega) (by omega)) ?_
    rw [mi_a f 7, nI_clamp (by omega), nI_clamp (by omega), mq_xs_s (by omega)]
    exact ⟨vp_in_nI (by omega) (by decide), vp_in_nI (by omega) (by decide), nm_e (nm_e (ih f (by omega) (by omega)))⟩
theorem mx_og {post : SX → Prop} {gc pc tm : Int32} {ce rc tk co ln ki : Nat → Int32} {nm : Nat → Int64} {nu pr : Nat → Int32} {fa : Nat → Int64} {p n : Nat} {q : Option Int64} (hp : p ≤ n) (hn : n < 12) (hgc : gc = nI n)
    (K : post (nI (n + 1), pc, tm, ce, rc, tk, co, ln, ki, nm, nu, pr, vp_updL (vp_updL (mq_xz (mq_xs fa (p * 7) (n * 7)) (p * 7) 7) (p * 7) (mq_kn q)) (p * 7 + 1) (mq_kv q))) :
    wpX_openGroup post (gc, pc, tm, ce, rc, tk, co, ln, ki, nm, nu, pr, fa) (nI p) (mq_kb q) (mq_kv q) := by
  refine nm_r (mi_7 p) (nm_r (e' := nI (n * 7) + (-1)) (by rw [hgc, mi_7, mn_ns]) ⟨(n * 7 - p * 7) + 1, ?_⟩)
  have h := mx_og17 (post := post) (gc := gc) (pc := pc) (tm := tm) (ce := ce) (rc := rc) (tk := tk) (co := co) (ln := ln) (ki := ki) (nm := nm) (nu := nu) (pr := pr) (fa := fa) (q := q) hp hn hgc K (n * 7 - p * 7) (n * 7) (by omega) (Nat.le_refl _)
  rw [mq_xs_0] at h
  exact h
theorem mx_gw {post : Int32 → SX → Prop} {gc pc tm : Int32} {ce rc tk co ln ki : Nat → Int32} {nm : Nat → Int64} {nu pr : Nat → Int32} {fa : Nat → Int64} {n : Nat} {G : Nat → Option Int64} {q : Option Int64} (hn : n ≤ 12) (hgc : gc = nI n) (h0 : ∀ i, i < n → fa (i * 7) = mq_kn (G i) ∧ fa (i * 7 + 1) = mq_kv (G i))
    (K1 : mq_plc G q n < n ∧ G (mq_plc G q n) = q → post (nI (mq_plc G q n)) (gc, pc, tm, ce, rc, tk, co, ln, ki, nm, nu, pr, fa))
    (K2 : ¬ (mq_plc G q n < n ∧ G (mq_plc G q n) = q) → 12 ≤ n → post (-1) (gc, pc, tm, ce, rc, tk, co, ln, ki, nm, nu, pr, fa))
    (K3 : ¬ (mq_plc G q n < n ∧ G (mq_plc G q n) = q) → n < 12 → post (nI (mq_plc G q n)) (nI (n + 1), pc, tm, ce, rc, tk, co, ln, ki, nm, nu, pr, vp_updL (vp_updL (mq_xz (mq_xs fa (mq_plc G q n * 7) (n * 7)) (mq_plc G q n * 7) 7) (mq_plc G q n * 7) (mq_kn q)) (mq_plc G q n * 7 + 1) (mq_kv q))) :
    wpX_groupWithKey post (gc, pc, tm, ce, rc, tk, co, ln, ki, nm, nu, pr, fa) (mq_kb q) (mq_kv q) := by
  have hple := mq_plc_le G q n
  have q63 : ¬ (mq_plc G q n < n ∧ G (mq_plc G q n) = q) → wX_groupWithKey_63 post (mq_kb q) (mq_kv q) (nI n) (nI (mq_plc G q n)) gc pc tm ce rc tk co ln ki nm nu pr fa := by
    intro z
    by_cases h12 : n < 12
    · refine br_t (nI_lt (b := 12) h12 (by decide)) ?_
      exact mx_og hple h12 hgc (K3 z h12)
    · exact br_f (nI_nlt (b := 12) (by omega) (by omega)) (K2 z (by omega))
  have q12 : ∀ d i, i + d = n → wX_groupWithKey_12 post (mq_kb q) (mq_kv q) (nI n) gc pc tm ce rc tk co ln ki nm nu pr fa (d + 1) (nI (mq_plc G q i)) (nI i) := by
    intro d
    induction d with
    | zero =>
      intro i e
      have e : i = n := by omega
      subst e
      refine br_t (nI_le (Nat.le_refl _) (by omega)) ?_
      by_cases c : mq_plc G q i < i
      · refine br_f (nI_ge c (by omega)) ?_
        have hh := h0 (mq_plc G q i) c
        refine mx_hk (by omega) hh.1 hh.2 ?_ ?_
        · intro z
          exact br_f (by decide) (K1 ⟨c, z⟩)
        · intro z
          exact br_t rfl (q63 (fun y => z y.2))
      · exact br_t (nI_le (by omega) (by omega)) (q63 (fun y => c y.1))
    | succ d ih =>
      intro i e
      refine br_f (nI_ge (by omega) (by omega)) ?_
      have hh := h0 i (by omega)
      refine mx_cb (by omega) hh.1 hh.2 ?_
      have h1 := ih (i + 1) (by omega)
      have hs : mq_plc G q (i + 1) = if mq_lt (G i) q = true then i + 1 else mq_plc G q i := rfl
      cases hb : mq_lt (G i) q with
      | false =>
        rw [hs, hb, if_neg (by decide)] at h1
        exact br_t rfl (nm_r (nI_1 i) h1)
      | true =>
        rw [hs, hb, if_pos rfl] at h1
        exact br_f (by decide) (nm_r (nI_1 i) (nm_r (nI_1 i) h1))
  subst hgc
  exact ⟨n + 1, q12 n 0 (by omega)⟩
theorem mx_av {post : SX → Prop} {gc pc tm : Int32} {ce rc tk co ln ki : Nat → Int32} {nm : Nat → Int64} {nu pr : Nat → Int32} {fa : Nat → Int64} {p : Nat} {x : Int64} (hp : p < 12)
    (K : ∀ f, (∀ j, (j < p * 7 + 3 ∨ p * 7 + 7 ≤ j) → f j = fa j) → f (p * 7 + 3) = fa (p * 7 + 3) + 1 → f (p * 7 + 4) = fa (p * 7 + 4) + x →
      f (p * 7 + 5) = (if fa (p * 7 + 3) = 0 ∨ x < fa (p * 7 + 5) then x else fa (p * 7 + 5)) → f (p * 7 + 6) = (if fa (p * 7 + 3) = 0 ∨ fa (p * 7 + 6) < x then x else fa (p * 7 + 6)) → post (gc, pc, tm, ce, rc, tk, co, ln, ki, nm, nu, pr, f)) :
    wpX_addValue post (gc, pc, tm, ce, rc, tk, co, ln, ki, nm, nu, pr, fa) (nI p) x := by
  have e3 : nI (p * 7) + 3 = nI (p * 7 + 3) := mi_a (p * 7) 3
  have e4 : nI (p * 7) + 4 = nI (p * 7 + 4) := mi_a (p * 7) 4
  have e5 : nI (p * 7) + 5 = nI (p * 7 + 5) := mi_a (p * 7) 5
  have e6 : nI (p * 7) + 6 = nI (p * 7 + 6) := mi_a (p * 7) 6
  have c3 : (nI (p * 7 + 3)).toNatClampNeg = p * 7 + 3 := nI_clamp (by omega)
  have c4 : (nI (p * 7 + 4)).toNatClampNeg = p * 7 + 4 := nI_clamp (by omega)
  have c5 : (nI (p * 7 + 5)).toNatClampNeg = p * 7 + 5 := nI_clamp (by omega)
  have c6 : (nI (p * 7 + 6)).toNatClampNeg = p * 7 + 6 := nI_clamp (by omega)
  have i3 : vp_in (nI (p * 7 + 3)) 84 := vp_in_nI (by omega) (by decide)
  have i4 : vp_in (nI (p * 7 + 4)) 84 := vp_in_nI (by omega) (by decide)
  have i5 : vp_in (nI (p * 7 + 5)) 84 := vp_in_nI (by omega) (by decide)
  have i6 : vp_in (nI (p * 7 + 6)) 84 := vp_in_nI (by omega) (by decide)
  obtain ⟨z0, hz0, hz1⟩ : ∃ z0 : Int32, (z0 = 0 ↔ ¬ fa (p * 7 + 3) = 0) ∧ ((fa (p * 7 + 3) = 0 ∧ z0 = 1) ∨ (¬ fa (p * 7 + 3) = 0 ∧ z0 = 0)) := by
    by_cases c : fa (p * 7 + 3) = 0
    · exact ⟨1, ⟨fun z => absurd z (by decide), fun z => absurd c z⟩, Or.inl ⟨c, rfl⟩⟩
    · exact ⟨0, ⟨fun _ => c, fun _ => rfl⟩, Or.inr ⟨c, rfl⟩⟩
  have q82 : ∀ f, (∀ j, (j < p * 7 + 3 ∨ p * 7 + 6 ≤ j) → f j = fa j) → f (p * 7 + 3) = fa (p * 7 + 3) + 1 → f (p * 7 + 4) = fa (p * 7 + 4) + x →
      f (p * 7 + 5) = (if fa (p * 7 + 3) = 0 ∨ x < fa (p * 7 + 5) then x else fa (p * 7 + 5)) → wX_addValue_82 post x (nI (p * 7)) z0 gc pc tm ce rc tk co ln ki nm nu pr f := by
    intro f f0 f3 f4 f5
    have q102 : (fa (p * 7 + 3) = 0 ∨ fa (p * 7 + 6) < x) → wX_addValue_102 post x (nI (p * 7)) gc pc tm ce rc tk co ln ki nm nu pr f := by
      intro hc
      unfold wX_addValue_102
      rw [e6, c6]
      refine ⟨i6, nm_e (K _ ?_ ?_ ?_ ?_ ?_)⟩
      · intro j hj
        rw [pk_uLn (by omega)]
        exact f0 j (by omega)
      · rw [pk_uLn (by omega)]; exact f3
      · rw [pk_uLn (by omega)]; exact f4
      · rw [pk_uLn (by omega)]; exact f5
      · rw [pk_uLs, if_pos hc]
    by_cases cz : z0 = 0
    · refine br_t cz ?_
      rw [e6, c6, f0 (p * 7 + 6) (by omega)]
      refine ⟨i6, ?_⟩
      by_cases cl : x ≤ fa (p * 7 + 6)
      · refine br_t cl (K f (fun j hj => f0 j (by omega)) f3 f4 f5 ?_)
        rw [f0 (p * 7 + 6) (by omega), if_neg (fun z => z.elim (hz0.mp cz) (Int64.not_lt.mpr cl))]
      · exact br_f cl (q102 (Or.inr (Int64.not_le.mp cl)))
    · refine br_f cz (q102 (Or.inl ?_))
      exact hz1.elim (fun z => z.1) (fun z => absurd z.2 cz)
  have q25 : wX_addValue_25 post x (nI (p * 7)) z0 gc pc tm ce rc tk co ln ki nm nu pr fa := by
    unfold wX_addValue_25
    rw [e3, e4, e5, c3, c4, c5]
    refine ⟨i3, i3, nm_e ⟨i4, i4, nm_e ?_⟩⟩
    have q72 : (fa (p * 7 + 3) = 0 ∨ x < fa (p * 7 + 5)) → wX_addValue_72 post x (nI (p * 7)) z0 gc pc tm ce rc tk co ln ki nm nu pr (vp_updL (vp_updL fa (p * 7 + 3) (fa (p * 7 + 3) + 1)) (p * 7 + 4) (vp_updL fa (p * 7 + 3) (fa (p * 7 + 3) + 1) (p * 7 + 4) + x)) := by
      intro hc
      unfold wX_addValue_72
      rw [e5, c5]
      refine ⟨i5, nm_e (q82 _ ?_ ?_ ?_ ?_)⟩
      · intro j hj
        rw [pk_uLn (by omega), pk_uLn (by omega), pk_uLn (by omega)]
      · rw [pk_uLn (by omega), pk_uLn (by omega), pk_uLs]
      · rw [pk_uLn (by omega), pk_uLs, pk_uLn (by omega)]
      · rw [pk_uLs, if_pos hc]
    by_cases cz : z0 = 0
    · refine br_t cz ?_
      rw [pk_uLn (j := p * 7 + 5) (by omega), pk_uLn (j := p * 7 + 5) (by omega)]
      refine ⟨i5, ?_⟩
      by_cases cl : fa (p * 7 + 5) ≤ x
      · refine br_t cl (q82 _ ?_ ?_ ?_ ?_)
        · intro j hj
          rw [pk_uLn (by omega), pk_uLn (by omega)]
        · rw [pk_uLn (by omega), pk_uLs]
        · rw [pk_uLs, pk_uLn (by omega)]
        · rw [pk_uLn (by omega), pk_uLn (by omega), if_neg (fun z => z.elim (hz0.mp cz) (Int64.not_lt.mpr cl))]
      · exact br_f cl (q72 (Or.inr (Int64.not_le.mp cl)))
    · refine br_f cz (q72 (Or.inl ?_))
      exact hz1.elim (fun z => z.1) (fun z => absurd z.2 cz)
  refine nm_r (mi_7 p) ?_
  rw [e3, c3]
  refine ⟨i3, ?_⟩
  rcases hz1 with ⟨a, b⟩ | ⟨a, b⟩
  · rw [b] at q25
    exact br_t a q25
  · rw [b] at q25
    exact br_f a q25
end MQ15
end
section
section MQ16
variable {n : Nat → Nat} {D : Nat → Nat → Int32} {m : Nat → Nat} {T C : Nat → Nat → Int32} {s : MqG}
def mq_jx (n : Nat → Nat) (jo : Option Nat) (x : Int32) : Prop := (∃ j, j < n 1 ∧ jo = some j ∧ x = nI j) ∨ (jo = none ∧ x = -1)
theorem mx_lp {post : SX → Prop} {gc pc tm : Int32} {ce rc tk co ln ki : Nat → Int32} {nm : Nat → Int64} {nu pr : Nat → Int32} {fa : Nat → Int64} (HT : mq_TX n D ce rc) {i : Nat} (hi : i < n 0) {jo : Option Nat} {x : Int32} (hx : mq_jx n jo x)
    (K : ∀ pr, (∀ c, c < 6 → pr c = mq_P D i jo c) → post (gc, pc, tm, ce, rc, tk, co, ln, ki, nm, nu, pr, fa)) : wpX_loadPair post (gc, pc, tm, ce, rc, tk, co, ln, ki, nm, nu, pr, fa) (nI i) x := by
  have h16 := (HT.1 0 (by decide)).1
  have h17 := (HT.1 1 (by decide)).1
  have q : ∀ d c, c + d = 6 → ∀ pr, (∀ c', c' < c → pr c' = mq_P D i jo c') → wX_loadPair_2 post (nI i) x gc pc tm (d + 1) (nI c) ce rc tk co ln ki nm nu pr fa := by
    intro d
    induction d with
    | zero =>
      intro c e pr hpr
      have e : c = 6 := by omega
      subst e
      exact br_t (by decide) (K pr hpr)
    | succ d ih =>
      intro c e pr hpr
      have c1 : (nI c).toNatClampNeg = c := nI_clamp (by omega)
      have i1 : vp_in (nI c) 6 := vp_in_nI (by omega) (by decide)
      have hnext : ∀ v, v = mq_P D i jo c → wX_loadPair_2 post (nI i) x gc pc tm (d + 1) (nI (c + 1)) ce rc tk co ln ki nm nu (upd pr c v) fa := by
        intro v hv
        refine ih (c + 1) (by omega) _ ?_
        intro c' hc'
        by_cases ec : c' = c
        · rw [ec, pk_us]; exact hv
        · rw [pk_un ec]; exact hpr c' (by omega)
      refine br_f (nI_ge (b := 6) (by omega) (by decide)) ?_
      by_cases c3 : 3 ≤ c
      · refine br_t (nI_le (a := 3) c3 (by omega)) ?_
        rcases hx with ⟨j, hj, ej, ex⟩ | ⟨ej, ex⟩
        · subst ex
          refine br_f (mn_n1 (by omega)) ?_
          rw [mi_16, c1, nI_clamp (by omega)]
          refine ⟨vp_in_nI (by omega) (by decide), i1, nm_e (nm_r (nI_1 c) (hnext _ ?_))⟩
          have e2 : c / 3 = 1 := by omega
          rw [Nat.mul_comm c 16, HT.2 c (by omega) j (by rw [e2]; exact hj)]
          unfold mq_P
          rw [if_neg (by omega), ej]
        · subst ex
          refine br_t rfl ⟨i1, ?_⟩
          rw [c1]
          refine nm_e (nm_r (nI_1 c) (hnext _ ?_))
          unfold mq_P
          rw [if_neg (by omega), ej]
      · refine br_f (nI_ge (b := 3) (by omega) (by decide)) (br_f (mn_n1 (by omega)) ?_)
        rw [mi_16, c1, nI_clamp (by omega)]
        refine ⟨vp_in_nI (by omega) (by decide), i1, nm_e (nm_r (nI_1 c) (hnext _ ?_))⟩
        have e2 : c / 3 = 0 := by omega
        rw [Nat.mul_comm c 16, HT.2 c (by omega) i (by rw [e2]; exact hi)]
        unfold mq_P
        rw [if_pos (by omega)]
  exact ⟨7, q 6 0 rfl pr (fun c' hc' => absurd hc' (Nat.not_lt_zero c'))⟩
/-- what remains when the group is found -/
theorem mx_tail {post : SX → Prop} {gc pc tm : Int32} {ce rc tk co ln ki : Nat → Int32} {nm : Nat → Int64} {nu pr : Nat → Int32} {fa : Nat → Int64} {P : Nat → Int32} {s1 : MqG} {c : Int32} (hE : mq_EI m T) (HT : mq_TX n D ce rc) (HE : mq_EX m T C tk co ln) (HF : mq_FX s1 fa) (hgc : gc = nI s1.1) (hpc : pc = c) (htm : tm = mq_bi s1.2.2.2.1) (hP : ∀ c, c < 6 → pr c = P c) {p : Nat} (hp : p < 12)
    (K : ∀ u', mq_XR n D m T C (s1.1, s1.2.1, (if s1.2.2.2.1 = true then s1.2.2.1 else mq_upS p (mq_ev (T 1) (C 1) P (m 1)) s1.2.2.1), s1.2.2.2.1, c) u' → post u') :
    wpX_evaluate (fun u => match u with | (gc, pc, tm, ce, rc, tk, co, ln, ki, nm, nu, pr, fa) => (((nu 19) = 0 → (wpX_addValue (fun u => match u with | (gc, pc, tm, ce, rc, tk, co, ln, ki, nm, nu, pr, fa) => (post (gc, pc, tm, ce, rc, tk, co, ln, ki, nm, nu, pr, fa))) (gc, pc, tm, ce, rc, tk, co, ln, ki, nm, nu, pr, fa) (nI p) (nm 19))) ∧ (¬ (nu 19) = 0 → (post (gc, pc, tm, ce, rc, tk, co, ln, ki, nm, nu, pr, fa))))) (gc, pc, tm, ce, rc, tk, co, ln, ki, nm, nu, pr, vp_updL fa (p * 7 + 2) (fa (p * 7 + 2) + 1)) 1 := by
  refine mx_ev (e := 1) (P := P) HE (by decide) (hE.1 1 (by decide)) hP hE.2.2.1 ?_
  intro nm nu hv
  generalize mq_ev (T 1) (C 1) P (m 1) = v at hv K
  cases v with
  | none =>
    have h1 : nu 19 = 1 := hv
    have h1' : ¬ nu 19 = 0 := by rw [h1]; decide
    refine br_f h1' (K _ ⟨HT, HE, ?_, hgc, hpc, htm⟩)
    refine mq_fx_up HF ?_ ?_
    · intro j hj
      exact pk_uLn (by omega)
    · intro j hj
      show _ = (if j = 0 then fa (7 * p + 2 + 0) + 1 else fa (7 * p + 2 + j))
      by_cases j0 : j = 0
      · subst j0
        rw [if_pos rfl, Nat.add_zero, Nat.mul_comm 7 p, pk_uLs]
      · rw [if_neg j0, pk_uLn (by omega)]
  | some x =>
    obtain ⟨h1, h2⟩ := hv
    refine br_t h1 ?_
    rw [h2]
    refine mx_av hp ?_
    intro f f0 f3 f4 f5 f6
    rw [pk_uLn (j := p * 7 + 3) (by omega)] at f3 f5 f6
    rw [pk_uLn (j := p * 7 + 4) (by omega)] at f4
    rw [pk_uLn (j := p * 7 + 5) (by omega)] at f5
    rw [pk_uLn (j := p * 7 + 6) (by omega)] at f6
    refine K _ ⟨HT, HE, ?_, hgc, hpc, htm⟩
    refine mq_fx_up HF ?_ ?_
    · intro j hj
      rw [f0 j (by omega)]
      exact pk_uLn (by omega)
    · intro j hj
      have e7 : 7 * p = p * 7 := Nat.mul_comm 7 p
      rw [e7]
      show f (p * 7 + 2 + j) = (if j = 0 then fa (p * 7 + 2 + 0) + 1 else if j = 1 then fa (p * 7 + 2 + 1) + 1 else if j = 2 then fa (p * 7 + 2 + 2) + x else if j = 3 then (if fa (p * 7 + 2 + 1) = 0 ∨ x < fa (p * 7 + 2 + 3) then x else fa (p * 7 + 2 + 3)) else if j = 4 then (if fa (p * 7 + 2 + 1) = 0 ∨ fa (p * 7 + 2 + 4) < x then x else fa (p * 7 + 2 + 4)) else fa (p * 7 + 2 + j))
      by_cases j0 : j = 0
      · subst j0
        rw [if_pos rfl]
        rw [f0 (p * 7 + 2 + 0) (by omega)]
        exact pk_uLs
      · rw [if_neg j0]
        by_cases j1 : j = 1
        · subst j1
          rw [if_pos rfl]
          exact f3
        · rw [if_neg j1]
          by_cases j2 : j = 2
          · subst j2
            rw [if_pos rfl]
            exact f4
          · rw [if_neg j2]
            by_cases j3 : j = 3
            · subst j3
              rw [if_pos rfl]
              exact f5
            · have j4 : j = 4 := by omega
              subst j4
              rw [if_neg j3, if_pos rfl]
              exact f6
theorem mx_72 {post : SX → Prop} {gc pc tm : Int32} {ce rc tk co ln ki : Nat → Int32} {nm : Nat → Int64} {nu pr : Nat → Int32} {fa : Nat → Int64} {P : Nat → Int32} {q : Option Int64} (hE : mq_EI m T) (hs : mq_gi s) (HT : mq_TX n D ce rc) (HE : mq_EX m T C tk co ln) (HF : mq_FX s fa) (hgc : gc = nI s.1) (hpc : pc = s.2.2.2.2 + 1) (htm : tm = mq_bi s.2.2.2.1) (hP : ∀ c, c < 6 → pr c = P c)
    (K : ∀ u', mq_XR n D m T C (mq_hit q (mq_ev (T 1) (C 1) P (m 1)) s) u' → post u') : wX_considerPair_72 post (mq_kb q) (mq_kv q) gc pc tm ce rc tk co ln ki nm nu pr fa := by
  obtain ⟨g, G, S, b, cc⟩ := s
  obtain ⟨h12, hsrt⟩ := hs
  have h12 : g ≤ 12 := h12
  have hple := mq_plc_le G q g
  unfold wX_considerPair_72
  refine mx_gw (n := g) (G := G) (q := q) h12 hgc (fun i hi => ⟨by rw [Nat.mul_comm]; exact (HF i hi).1, by rw [Nat.mul_comm]; exact (HF i hi).2.1⟩) ?_ ?_ ?_
  · intro hf
    refine br_f (mn_n1 (by omega)) ?_
    rw [mi_7k (mq_plc G q g) 2, nI_clamp (by omega)]
    refine ⟨vp_in_nI (by omega) (by decide), vp_in_nI (by omega) (by decide), nm_e ?_⟩
    refine mx_tail (s1 := (g, G, S, b, cc)) (c := cc + 1) hE HT HE HF hgc hpc htm hP (by omega) ?_
    intro u' hu
    refine K u' ?_
    unfold mq_hit
    dsimp only
    rw [if_pos hf]
    exact hu
  · intro hf hg
    refine br_t rfl (K _ ?_)
    unfold mq_hit
    dsimp only
    rw [if_neg hf, if_pos hg]
    exact ⟨HT, HE, fun i hi => ⟨(HF i hi).1, (HF i hi).2.1, fun z => Bool.noConfusion z⟩, hgc, hpc, rfl⟩
  · intro hf hg
    refine br_f (mn_n1 (by omega)) ?_
    rw [mi_7k (mq_plc G q g) 2, nI_clamp (by omega)]
    refine ⟨vp_in_nI (by omega) (by decide), vp_in_nI (by omega) (by decide), nm_e ?_⟩
    refine mx_tail (s1 := (g + 1, mq_ins G (mq_plc G q g) q, mq_ins S (mq_plc G q g) (fun _ => 0), b, cc)) (c := cc + 1) hE HT HE (mq_fx_in HF hple) rfl hpc htm hP (by omega) ?_
    intro u' hu
    refine K u' ?_
    unfold mq_hit
    dsimp only
    rw [if_neg hf, if_neg (by omega)]
    exact hu
theorem mx_cp {post : SX → Prop} {u : SX} (hE : mq_EI m T) (hs : mq_gi s) (H : mq_XR n D m T C s u) {i : Nat} (hi : i < n 0) {jo : Option Nat} {x : Int32} (hx : mq_jx n jo x)
    (K : ∀ u', mq_XR n D m T C (mq_q m T C (mq_P D i jo) s) u' → post u') : wpX_considerPair post u (nI i) x := by
  obtain ⟨gc, pc, tm, ce, rc, tk, co, ln, ki, nm, nu, pr, fa⟩ := u
  obtain ⟨HT, HE, HF, hgc, hpc, htm⟩ := H
  unfold wpX_considerPair
  dsimp only
  refine mx_lp HT hi hx ?_
  intro pr hP
  refine mx_ev (e := 0) (P := mq_P D i jo) HE (by decide) (hE.1 0 (by decide)) hP hE.2.1 ?_
  intro nm nu hv
  have htt : mq_tt (mq_ev (T 0) (C 0) (mq_P D i jo) (m 0)) := mq_ty (hE.1 0 (by decide)) (m 0) (Nat.le_refl _) 0 hE.2.1.2.2
  unfold mq_q mq_pair at K
  generalize mq_ev (T 0) (C 0) (mq_P D i jo) (m 0) = v at hv K htt
  rcases htt with rfl | rfl | rfl
  · have h1 : nu 19 = 1 := hv
    rw [if_neg (fun z => nomatch z)] at K
    have h1' : ¬ nu 19 = 0 := by rw [h1]; decide
    exact br_f h1' (K _ ⟨HT, HE, HF, hgc, hpc, htm⟩)
  · obtain ⟨h1, h2⟩ := hv
    rw [if_neg (by decide)] at K
    exact br_t h1 (br_t h2 (K _ ⟨HT, HE, HF, hgc, hpc, htm⟩))
  · obtain ⟨h1, h2⟩ := hv
    rw [if_pos rfl] at K
    have h2' : ¬ nm 19 = 0 := by rw [h2]; decide
    refine br_t h1 (br_f h2' (nm_e ?_))
    refine mx_ev (e := 2) (P := mq_P D i jo) HE (by decide) (hE.1 2 (by decide)) hP hE.2.2.2 ?_
    intro nm nu hv
    generalize mq_ev (T 2) (C 2) (mq_P D i jo) (m 2) = q at hv K
    have hq : (nu 19 = 1 ∧ q = none) ∨ (nu 19 = 0 ∧ q = some (nm 19)) := by
      cases q with
      | none => exact Or.inl ⟨hv, rfl⟩
      | some y => exact Or.inr ⟨hv.1, congrArg some hv.2.symm⟩
    rcases hq with ⟨a, rfl⟩ | ⟨a, rfl⟩
    · refine nm_r a (br_f (by decide) ?_)
      exact mx_72 (q := none) hE hs HT HE HF hgc (by rw [hpc]) htm hP K
    · refine nm_r a (br_t rfl ?_)
      exact mx_72 (q := some (nm 19)) hE hs HT HE HF hgc (by rw [hpc]) htm hP K
/-! a row, and all rows -/
theorem mx_86 {post : SX → Prop} {u : SX} (hE : mq_EI m T) (hs : mq_gi s) (H : mq_XR n D m T C s u) {i mo : Nat} (hi : i < n 0) (hmo : mo < 3) {b : Bool} {l r : Nat}
    (K : ∀ u', mq_XR n D m T C (if mo = 1 ∨ b = true then s else mq_q m T C (mq_P D i none) s) u' → post u') : (fun (u : SX) => match u with | (gc, pc, tm, ce, rc, tk, co, ln, ki, nm, nu, pr, fa) => wX_considerRow_86 post (nI mo) (nI i) (mq_b1 b) gc pc tm ce rc tk co ln ki nm nu pr fa) u := by
  by_cases c1 : mo = 1
  · rw [if_pos (Or.inl c1)] at K
    have K2 := K u H
    obtain ⟨gc, pc, tm, ce, rc, tk, co, ln, ki, nm, nu, pr, fa⟩ := u
    subst c1
    exact br_t rfl K2
  · cases b with
    | true =>
      rw [if_pos (Or.inr rfl)] at K
      have K2 := K u H
      obtain ⟨gc, pc, tm, ce, rc, tk, co, ln, ki, nm, nu, pr, fa⟩ := u
      exact br_f (fun z => c1 ((nI_eq (b := 1) (by omega) (by decide)).mp z)) (br_f (by decide) K2)
    | false =>
      rw [if_neg (fun z => z.elim c1 (fun y => nomatch y))] at K
      obtain ⟨gc, pc, tm, ce, rc, tk, co, ln, ki, nm, nu, pr, fa⟩ := u
      refine br_f (fun z => c1 ((nI_eq (b := 1) (by omega) (by decide)).mp z)) (br_t rfl ?_)
      refine mx_cp hE hs H hi (jo := none) (Or.inr ⟨rfl, rfl⟩) ?_
      intro u' hu
      obtain ⟨gc, pc, tm, ce, rc, tk, co, ln, ki, nm, nu, pr, fa⟩ := u'
      exact K _ hu
theorem mx_38 {post : SX → Prop} (hE : mq_EI m T) (hs : mq_gi s) {i mo l r : Nat} (hi : i < n 0) (hi16 : n 1 ≤ 16) (hmo : mo = 1 ∨ mo = 2) (hl : l < 3) (hr3 : 3 ≤ r) (hr : r < 6)
    (K : ∀ u', mq_XR n D m T C (mq_row m T C D (n 1) mo l r i s) u' → post u') :
    ∀ d j, j + d = n 1 → ∀ u, mq_XR n D m T C (mq_jn m T C D l r i s j).1 u → (fun (u : SX) => match u with | (gc, pc, tm, ce, rc, tk, co, ln, ki, nm, nu, pr, fa) => wX_considerRow_38 post (nI mo) (nI r) (nI i) (D l i) (nI (n 1)) (d + 1) (mq_b1 (mq_jn m T C D l r i s j).2) (nI j) gc pc tm ce rc tk co ln ki nm nu pr fa) u := by
  intro d
  induction d with
  | zero =>
    intro j e u H
    have e : j = n 1 := by omega
    subst e
    have h86 := mx_86 (post := post) (b := (mq_jn m T C D l r i s (n 1)).2) (l := l) (r := r) hE (mq_gi_jn hs (n 1)) H hi (mo := mo) (by omega) (by
      unfold mq_row at K
      rw [if_neg (by omega)] at K
      exact K)
    obtain ⟨gc, pc, tm, ce, rc, tk, co, ln, ki, nm, nu, pr, fa⟩ := u
    exact br_t (nI_le (Nat.le_refl _) (by omega)) h86
  | succ d ih =>
    intro j e u H
    have hstep : mq_jn m T C D l r i s (j + 1) = if D l i ≠ -2147483648 ∧ D l i = D r j then (mq_q m T C (mq_P D i (some j)) (mq_jn m T C D l r i s j).1, true) else mq_jn m T C D l r i s j := rfl
    have hx := ih (j + 1) (by omega)
    rw [hstep] at hx
    obtain ⟨gc, pc, tm, ce, rc, tk, co, ln, ki, nm, nu, pr, fa⟩ := u
    refine br_f (nI_ge (by omega) (by omega)) ?_
    by_cases c1 : D l i = -2147483648
    · rw [if_neg (fun z => z.1 c1)] at hx
      exact br_t c1 (nm_r (nI_1 j) (hx _ H))
    · refine br_f c1 ?_
      have e2 : r / 3 = 1 := by omega
      have e3 : ce (r * 16 + j) = D r j := by
        rw [Nat.mul_comm]
        exact H.1.2 r hr j (by rw [e2]; omega)
      rw [mi_16, nI_clamp (by omega), e3]
      refine ⟨vp_in_nI (by omega) (by decide), ?_⟩
      by_cases c2 : D l i = D r j
      · rw [if_pos ⟨c1, c2⟩] at hx
        refine br_t c2 ?_
        refine mx_cp hE (mq_gi_jn hs j) H hi (jo := some j) (Or.inl ⟨j, by omega, rfl, rfl⟩) ?_
        intro u' hu
        have hx2 := hx u' hu
        obtain ⟨gc, pc, tm, ce, rc, tk, co, ln, ki, nm, nu, pr, fa⟩ := u'
        exact nm_r (nI_1 j) hx2
      · rw [if_neg (fun z => c2 z.2)] at hx
        exact br_f c2 (nm_r (nI_1 j) (hx _ H))
theorem mx_cr {post : SX → Prop} {u : SX} (hE : mq_EI m T) (hs : mq_gi s) (H : mq_XR n D m T C s u) {i mo l r : Nat} (hi : i < n 0) (hmo : mo < 3) (hl : l < 3) (hr3 : 3 ≤ r) (hr : r < 6)
    (K : ∀ u', mq_XR n D m T C (mq_row m T C D (n 1) mo l r i s) u' → post u') : wpX_considerRow post u (nI mo) (nI l) (nI r) (nI i) := by
  have h16 := mx_n16 H
  have h0 := h16 0 (by decide)
  have h1 := h16 1 (by decide)
  have q13 : (mo = 1 ∨ mo = 2) → (fun (u : SX) => match u with | (gc, pc, tm, ce, rc, tk, co, ln, ki, nm, nu, pr, fa) => wX_considerRow_13 post (nI mo) (nI l) (nI r) (nI i) 0 gc pc tm ce rc tk co ln ki nm nu pr fa) u := by
    intro hm
    have h38 := mx_38 hE hs hi h1 hm hl hr3 hr K (n 1) 0 (by omega) u H
    obtain ⟨gc, pc, tm, ce, rc, tk, co, ln, ki, nm, nu, pr, fa⟩ := u
    unfold wX_considerRow_13
    dsimp only
    have e2 : l / 3 = 0 := by omega
    have e3 : ce (l * 16 + i) = D l i := by
      rw [Nat.mul_comm]
      exact H.1.2 l (by omega) i (by rw [e2]; exact hi)
    rw [mi_16, nI_clamp (by omega), e3, (H.1.1 1 (by decide)).2]
    exact ⟨vp_in_nI (by omega) (by decide), nm_e (nm_e ⟨n 1 + 1, h38⟩)⟩
  by_cases c1 : mo = 1
  · have h := q13 (Or.inl c1)
    obtain ⟨gc, pc, tm, ce, rc, tk, co, ln, ki, nm, nu, pr, fa⟩ := u
    exact br_t (by rw [c1]; rfl) h
  · by_cases c2 : mo = 2
    · have h := q13 (Or.inr c2)
      obtain ⟨gc, pc, tm, ce, rc, tk, co, ln, ki, nm, nu, pr, fa⟩ := u
      exact br_f (fun z => c1 ((nI_eq (b := 1) (by omega) (by decide)).mp z)) (br_t (by rw [c2]; rfl) h)
    · have c0 : mo = 0 := by omega
      have h86 := mx_86 (post := post) (b := false) (l := l) (r := r) hE hs H hi hmo (by
        unfold mq_row at K
        rw [if_pos c0] at K
        rw [if_neg (fun z => z.elim c1 (fun y => nomatch y))]
        exact K)
      obtain ⟨gc, pc, tm, ce, rc, tk, co, ln, ki, nm, nu, pr, fa⟩ := u
      exact br_f (fun z => c1 ((nI_eq (b := 1) (by omega) (by decide)).mp z)) (br_f (fun z => c2 ((nI_eq (b := 2) (by omega) (by decide)).mp z)) h86)
def mq_end (s : MqG) : MqG := if s.2.2.2.1 = true then (0, s.2.1, s.2.2.1, true, s.2.2.2.2) else s
def mq_ans (s : MqG) : Int32 := if s.2.2.2.1 = true then -2 else nI s.1
theorem mx_run {post : Int32 → SX → Prop} {u : SX} (hE : mq_EI m T) (H : mq_XR n D m T C s u) {mo l r : Nat} (hmo : mo < 3) (hl : l < 3) (hr3 : 3 ≤ r) (hr : r < 6)
    (K : ∀ u', mq_XR n D m T C (mq_end (mq_rows m T C D (n 1) mo l r (n 0))) u' → post (mq_ans (mq_rows m T C D (n 1) mo l r (n 0))) u') : wpX_run post u (nI mo) (nI l) (nI r) := by
  have h16 := mx_n16 H
  have h0 := h16 0 (by decide)
  have q57 : ∀ d i, i + d = n 0 → ∀ u, mq_XR n D m T C (mq_rows m T C D (n 1) mo l r i) u → (fun (u : SX) => match u with | (gc, pc, tm, ce, rc, tk, co, ln, ki, nm, nu, pr, fa) => wX_run_57 post (nI mo) (nI l) (nI r) (nI (n 0)) (d + 1) (nI i) gc pc tm ce rc tk co ln ki nm nu pr fa) u := by
    intro d
    induction d with
    | zero =>
      intro i e u H
      have e : i = n 0 := by omega
      subst e
      obtain ⟨gc, pc, tm, ce, rc, tk, co, ln, ki, nm, nu, pr, fa⟩ := u
      refine br_t (nI_le (Nat.le_refl _) (by omega)) ?_
      obtain ⟨HT, HE, HF, hgc, hpc, htm⟩ := H
      generalize mq_rows m T C D (n 1) mo l r (n 0) = s' at HF hgc hpc htm K
      obtain ⟨g, G, S, b, cc⟩ := s'
      unfold mq_end mq_ans at K
      dsimp only at K
      cases b with
      | true =>
        rw [if_pos rfl, if_pos rfl] at K
        have htm' : tm = 1 := htm
        exact br_f (by rw [htm']; decide) (K _ ⟨HT, HE, fun i hi => absurd hi (Nat.not_lt_zero i), rfl, hpc, htm⟩)
      | false =>
        rw [if_neg (by decide), if_neg (by decide)] at K
        have hgc : gc = nI g := hgc
        have htm' : tm = 0 := htm
        refine br_t htm' ?_
        subst hgc
        exact K _ ⟨HT, HE, HF, rfl, hpc, htm⟩
    | succ d ih =>
      intro i e u H
      obtain ⟨gc, pc, tm, ce, rc, tk, co, ln, ki, nm, nu, pr, fa⟩ := u
      refine br_f (nI_ge (by omega) (by omega)) ?_
      refine mx_cr hE (mq_gi_rows i) H (by omega) hmo hl hr3 hr ?_
      intro u' hu
      have hx := ih (i + 1) (by omega) u' hu
      obtain ⟨gc, pc, tm, ce, rc, tk, co, ln, ki, nm, nu, pr, fa⟩ := u'
      exact nm_r (nI_1 i) hx
  obtain ⟨gc, pc, tm, ce, rc, tk, co, ln, ki, nm, nu, pr, fa⟩ := u
  obtain ⟨HT, HE, HF, hgc, hpc, htm⟩ := H
  refine br_f (nI_pos (by omega)) (br_f (nI_nlt (a := 2) (by omega) (by decide)) (br_f (nI_pos (by omega)) (br_f (nI_ge (b := 3) hl (by decide)) (br_f (nI_nlt (b := 3) hr3 (by omega)) (br_t (nI_lt (b := 6) hr (by decide)) (nm_r (HT.1 0 (by decide)).2 ⟨n 0 + 1, ?_⟩))))))
  exact q57 (n 0) 0 (by omega) (0, 0, 0, ce, rc, tk, co, ln, ki, nm, nu, pr, fa) ⟨HT, HE, fun i hi => absurd hi (Nat.not_lt_zero i), rfl, rfl, rfl⟩
theorem mx_runn {post : Int32 → SX → Prop} {u : SX} {x y z : Int32} (hx : x < 0 ∨ nI 3 ≤ x ∨ y < 0 ∨ nI 3 ≤ y ∨ z < nI 3 ∨ nI 6 ≤ z) (h : post (-1) u) : wpX_run post u x y z := by
  obtain ⟨gc, pc, tm, ce, rc, tk, co, ln, ki, nm, nu, pr, fa⟩ := u
  by_cases c1 : x < 0
  · exact br_t c1 h
  · refine br_f c1 ?_
    by_cases c2 : 2 < x
    · exact br_t c2 h
    · refine br_f c2 ?_
      have hx2 := hx.resolve_left c1
      have c2' : ¬ nI 3 ≤ x := by
        intro w
        obtain ⟨j, hj, rfl⟩ := nI_of c1
        exact c2 (nI_lt (a := 2) ((nI_leI (by decide) hj).mp w) hj)
      have hx3 := hx2.resolve_left c2'
      by_cases c3 : y < 0
      · exact br_t c3 h
      · refine br_f c3 ?_
        by_cases c4 : nI 3 ≤ y
        · exact br_t c4 h
        · refine br_f c4 ?_
          have hx5 := (hx3.resolve_left c3).resolve_left c4
          by_cases c5 : z < nI 3
          · exact br_t c5 h
          · exact br_f c5 (br_f (Int32.not_lt.mpr (hx5.resolve_left c5)) h)
end MQ16
end
section
section MQ17
theorem mq_kbv {a b : Option Int64} (h1 : mq_kb a = mq_kb b) (h2 : mq_kv a = mq_kv b) : a = b := by
  cases a with
  | none =>
    cases b with
    | none => rfl
    | some y => exact absurd h1 (by show ¬ (1 : Int32) = 0; decide)
  | some x =>
    cases b with
    | none => exact absurd h1 (by show ¬ (0 : Int32) = 1; decide)
    | some y => exact congrArg some h2
theorem mq_nkb (q : Option Int64) : vp_nar .boolean (mq_kb q) = mq_kb q := by
  cases q with
  | none => exact mn_b1
  | some x => exact mn_b0
theorem my_mg26 {post : SY → Prop} {tp gr fu pp : Int32} {ce rc tk co ln : Nat → Int32} {nm : Nat → Int64} {nu gn : Nat → Int32} {gk gs : Nat → Int64} {t : Nat} (ht : t + 1 < 12) (K : post (tp, gr, fu, pp, ce, rc, tk, co, ln, nm, nu, gn, gk, mq_m5 gs (t + 1) 5)) :
    ∀ d k, k + d = 5 → wY_moveGroup_26 post (nI t) (nI (t + 1)) tp gr fu pp (d + 1) (nI k) ce rc tk co ln nm nu gn gk (mq_m5 gs (t + 1) k) := by
  intro d
  induction d with
  | zero =>
    intro k e
    have e : k = 5 := by omega
    subst e
    exact br_t (by decide) K
  | succ d ih =>
    intro k e
    refine br_f (nI_ge (b := 5) (by omega) (by decide)) ?_
    rw [mi_5, mi_5, nI_clamp (by omega), nI_clamp (by omega), mq_m5_s (by omega)]
    exact ⟨vp_in_nI (by omega) (by decide), vp_in_nI (by omega) (by decide), nm_e (nm_r (nI_1 k) (ih (k + 1) (by omega)))⟩
theorem my_mg {post : SY → Prop} {tp gr fu pp : Int32} {ce rc tk co ln : Nat → Int32} {nm : Nat → Int64} {nu gn : Nat → Int32} {gk gs : Nat → Int64} {t : Nat} {q : Option Int64} (ht : t + 1 < 12) (hq : gn t = mq_kb q) (K : post (tp, gr, fu, pp, ce, rc, tk, co, ln, nm, nu, upd gn (t + 1) (gn t), vp_updL gk (t + 1) (gk t), mq_m5 gs (t + 1) 5)) :
    wpY_moveGroup post (tp, gr, fu, pp, ce, rc, tk, co, ln, nm, nu, gn, gk, gs) (nI t) (nI (t + 1)) := by
  unfold wpY_moveGroup
  dsimp only
  rw [nI_clamp (by omega), nI_clamp (by omega)]
  have e1 : vp_nar .boolean (gn t) = gn t := by rw [hq, mq_nkb]
  rw [e1]
  refine ⟨vp_in_nI (by omega) (by decide), vp_in_nI (by omega) (by decide), nm_e ⟨vp_in_nI (by omega) (by decide), vp_in_nI (by omega) (by decide), nm_e ⟨6, ?_⟩⟩⟩
  have h := my_mg26 (post := post) (tp := tp) (gr := gr) (fu := fu) (pp := pp) (ce := ce) (rc := rc) (tk := tk) (co := co) (ln := ln) (nm := nm) (nu := nu) (gn := upd gn (t + 1) (gn t)) (gk := vp_updL gk (t + 1) (gk t)) (gs := gs) ht K 5 0 rfl
  rw [mq_m5_0] at h
  exact h
theorem my_go141 {post : Int32 → SY → Prop} {tp gr fu pp : Int32} {ce rc tk co ln : Nat → Int32} {nm : Nat → Int64} {nu gn : Nat → Int32} {gk gs : Nat → Int64} {p : Nat} (hp : p < 12) (K : post (nI p) (tp, gr, fu, pp, ce, rc, tk, co, ln, nm, nu, gn, gk, mq_xz gs (5 * p) 5)) :
    ∀ d k, k + d = 5 → wY_groupOf_141 post (nI p) tp gr fu pp (d + 1) (nI k) ce rc tk co ln nm nu gn gk (mq_xz gs (5 * p) k) := by
  intro d
  induction d with
  | zero =>
    intro k e
    have e : k = 5 := by omega
    subst e
    exact br_t (by decide) K
  | succ d ih =>
    intro k e
    refine br_f (nI_ge (b := 5) (by omega) (by decide)) ?_
    rw [mi_5, nI_clamp (by omega), mq_xz_s]
    exact ⟨vp_in_nI (by omega) (by decide), nm_e (nm_r (nI_1 k) (ih (k + 1) (by omega)))⟩
theorem my_go112 {post : Int32 → SY → Prop} {tp gr fu pp : Int32} {ce rc tk co ln : Nat → Int32} {nm : Nat → Int64} {nu gn : Nat → Int32} {gk gs : Nat → Int64} {p n : Nat} {q : Option Int64} (hp : p < 12) (hgr : gr = nI n) (K : post (nI p) (tp, nI (n + 1), fu, pp, ce, rc, tk, co, ln, nm, nu, upd gn p (mq_kb q), vp_updL gk p (mq_kv q), mq_xz gs (5 * p) 5)) :
    wY_groupOf_112 post (mq_kb q) (mq_kv q) (nI p) tp gr fu pp ce rc tk co ln nm nu gn gk gs := by
  refine nm_r (e' := nI (n + 1)) (by rw [hgr, nI_1]) ?_
  rw [nI_clamp (by omega), mq_nkb]
  refine ⟨vp_in_nI hp (by decide), nm_e ⟨vp_in_nI hp (by decide), nm_e ⟨6, ?_⟩⟩⟩
  have h := my_go141 (post := post) (tp := tp) (gr := nI (n + 1)) (fu := fu) (pp := pp) (ce := ce) (rc := rc) (tk := tk) (co := co) (ln := ln) (nm := nm) (nu := nu) (gn := upd gn p (mq_kb q)) (gk := vp_updL gk p (mq_kv q)) (gs := gs) hp K 5 0 rfl
  rw [mq_xz_0] at h
  exact h
theorem my_go61 {post : Int32 → SY → Prop} {tp gr fu pp : Int32} {ce rc tk co ln : Nat → Int32} {nm : Nat → Int64} {nu gn : Nat → Int32} {gk gs : Nat → Int64} {n : Nat} {G : Nat → Option Int64} {q : Option Int64} (hn : n < 12) (hgr : gr = nI n) (hs : mq_srt n G) (h0 : ∀ i, i < n → gn i = mq_kb (G i) ∧ gk i = mq_kv (G i)) (hne : ∀ i, i < n → ¬ G i = q)
    (K : post (nI (mq_plc G q n)) (tp, nI (n + 1), fu, pp, ce, rc, tk, co, ln, nm, nu, upd (mq_sh gn (mq_plc G q n) n) (mq_plc G q n) (mq_kb q), vp_updL (mq_sh gk (mq_plc G q n) n) (mq_plc G q n) (mq_kv q), mq_xz (mq_s5 gs (mq_plc G q n) n) (5 * mq_plc G q n) 5)) :
    ∀ d a, a = mq_plc G q n + d → a ≤ n → wY_groupOf_61 post (mq_kb q) (mq_kv q) (d + 1) (nI a) tp gr fu pp ce rc tk co ln nm nu (mq_sh gn a n) (mq_sh gk a n) (mq_s5 gs a n) := by
  intro d
  induction d with
  | zero =>
    intro a ea ha
    have ea : a = mq_plc G q n := by omega
    have K112 : wY_groupOf_112 post (mq_kb q) (mq_kv q) (nI a) tp gr fu pp ce rc tk co ln nm nu (mq_sh gn a n) (mq_sh gk a n) (mq_s5 gs a n) := by
      subst ea
      exact my_go112 (by omega) hgr K
    by_cases a0 : a = 0
    · refine br_t ?_ K112
      rw [a0]
      decide
    · refine br_f (nI_nle (by omega) (by omega)) ?_
      rw [mn_s (by omega), nI_clamp (by omega), mq_sh_lo (by omega), mq_sh_lo (by omega), (h0 (a - 1) (by omega)).1, (h0 (a - 1) (by omega)).2]
      refine ⟨vp_in_nI (by omega) (by decide), ?_⟩
      have hlt := mq_plc_lo (q := q) n hs (a - 1) (by omega)
      cases hG : G (a - 1) with
      | none => exact br_f (by decide) K112
      | some x =>
        rw [hG] at hlt
        refine br_t rfl ?_
        cases q with
        | none => exact Bool.noConfusion hlt
        | some y =>
          have hxy : x < y := of_decide_eq_true hlt
          have hle : x ≤ y := by
            rw [Int64.lt_iff_toInt_lt] at hxy
            rw [Int64.le_iff_toInt_le]
            omega
          exact br_t rfl ⟨vp_in_nI (by omega) (by decide), br_t hle K112⟩
  | succ d ih =>
    intro a ea ha
    obtain ⟨a, rfl⟩ : ∃ a', a = a' + 1 := ⟨a - 1, by omega⟩
    have K96 : wY_groupOf_96 post (wY_groupOf_61 post (mq_kb q) (mq_kv q) (d + 1)) (mq_kb q) (mq_kv q) (nI (a + 1)) tp gr fu pp ce rc tk co ln nm nu (mq_sh gn (a + 1) n) (mq_sh gk (a + 1) n) (mq_s5 gs (a + 1) n) := by
      unfold wY_groupOf_96
      rw [nI_pred]
      refine my_mg (q := G a) (by omega) (by rw [mq_sh_lo (by omega)]; exact (h0 a (by omega)).1) ?_
      rw [mq_sh_s (by omega), mq_sh_sL (by omega), mq_m5_5 (by omega)]
      exact nm_r (pk_m1 a) (ih a (by omega) (by omega))
    refine br_f (nI_nle (by omega) (by omega)) ?_
    rw [nI_pred, nI_clamp (by omega), mq_sh_lo (by omega), mq_sh_lo (by omega), (h0 a (by omega)).1, (h0 a (by omega)).2]
    refine ⟨vp_in_nI (by omega) (by decide), ?_⟩
    have hge := mq_plc_hi (K := G) (q := q) n a (by omega) (by omega)
    have hlt := mq_lt_to (hne a (by omega)) hge
    cases hG : G a with
    | none =>
      rw [hG] at hlt
      cases q with
      | none => exact Bool.noConfusion hlt
      | some y => exact Bool.noConfusion hlt
    | some x =>
      rw [hG] at hlt
      refine br_t rfl ?_
      cases q with
      | none => exact br_f (by decide) K96
      | some y =>
        have hxy : y < x := of_decide_eq_true hlt
        refine br_t rfl ⟨vp_in_nI (by omega) (by decide), br_f ?_ K96⟩
        exact Int64.not_le.mpr hxy
theorem my_go {post : Int32 → SY → Prop} {tp gr fu pp : Int32} {ce rc tk co ln : Nat → Int32} {nm : Nat → Int64} {nu gn : Nat → Int32} {gk gs : Nat → Int64} {n : Nat} {G : Nat → Option Int64} {q : Option Int64} (hn : n ≤ 12) (hgr : gr = nI n) (hs : mq_srt n G) (h0 : ∀ i, i < n → gn i = mq_kb (G i) ∧ gk i = mq_kv (G i))
    (K1 : mq_plc G q n < n ∧ G (mq_plc G q n) = q → post (nI (mq_plc G q n)) (tp, gr, fu, pp, ce, rc, tk, co, ln, nm, nu, gn, gk, gs))
    (K2 : ¬ (mq_plc G q n < n ∧ G (mq_plc G q n) = q) → 12 ≤ n → post (-1) (tp, gr, fu, pp, ce, rc, tk, co, ln, nm, nu, gn, gk, gs))
    (K3 : ¬ (mq_plc G q n < n ∧ G (mq_plc G q n) = q) → n < 12 → post (nI (mq_plc G q n)) (tp, nI (n + 1), fu, pp, ce, rc, tk, co, ln, nm, nu, upd (mq_sh gn (mq_plc G q n) n) (mq_plc G q n) (mq_kb q), vp_updL (mq_sh gk (mq_plc G q n) n) (mq_plc G q n) (mq_kv q), mq_xz (mq_s5 gs (mq_plc G q n) n) (5 * mq_plc G q n) 5)) :
    wpY_groupOf post (tp, gr, fu, pp, ce, rc, tk, co, ln, nm, nu, gn, gk, gs) (mq_kb q) (mq_kv q) := by
  have hple := mq_plc_le G q n
  have q3 : ∀ d i, i + d = n → (∀ j, j < i → ¬ G j = q) → wY_groupOf_3 post (mq_kb q) (mq_kv q) tp (nI n) fu pp ce rc tk co ln nm nu gn gk gs (d + 1) (nI i) := by
    subst hgr
    intro d
    induction d with
    | zero =>
      intro i e hall
      have e : i = n := by omega
      subst e
      refine br_t (nI_le (Nat.le_refl _) (by omega)) ?_
      have hz : ¬ (mq_plc G q i < i ∧ G (mq_plc G q i) = q) := fun z => hall _ z.1 z.2
      by_cases c : i = 12
      · exact br_t (by rw [c]; rfl) (K2 hz (by omega))
      · refine br_f (fun z => c ((nI_eq (b := 12) (by omega) (by decide)).mp z)) ⟨(i - mq_plc G q i) + 1, ?_⟩
        have h := my_go61 (post := post) (tp := tp) (gr := nI i) (fu := fu) (pp := pp) (ce := ce) (rc := rc) (tk := tk) (co := co) (ln := ln) (nm := nm) (nu := nu) (gn := gn) (gk := gk) (gs := gs) (by omega) rfl hs h0 hall (K3 hz (by omega)) (i - mq_plc G q i) i (by omega) (Nat.le_refl _)
        rw [mq_sh_0, mq_sh_0, mq_s5_0] at h
        exact h
    | succ d ih =>
      intro i e hall
      refine br_f (nI_ge (by omega) (by omega)) ?_
      rw [nI_clamp (by omega), (h0 i (by omega)).1, (h0 i (by omega)).2]
      refine ⟨vp_in_nI (by omega) (by decide), ?_⟩
      have hnext : ¬ G i = q → wY_groupOf_3 post (mq_kb q) (mq_kv q) tp (nI n) fu pp ce rc tk co ln nm nu gn gk gs (d + 1) (nI (i + 1)) := by
        intro z
        refine ih (i + 1) (by omega) ?_
        intro j hj
        by_cases ej : j = i
        · rw [ej]; exact z
        · exact hall j (by omega)
      by_cases c1 : mq_kb (G i) = mq_kb q
      · refine br_t c1 ⟨vp_in_nI (by omega) (by decide), ?_⟩
        by_cases c2 : mq_kv (G i) = mq_kv q
        · have eq : G i = q := mq_kbv c1 c2
          have ep := mq_plc_eq hs (by omega : i < n) eq
          rw [ep] at K1
          exact br_t c2 (K1 ⟨by omega, eq⟩)
        · exact br_f c2 (nm_r (nI_1 i) (hnext (fun z => c2 (by rw [z]))))
      · exact br_f c1 (nm_r (nI_1 i) (hnext (fun z => c1 (by rw [z]))))
  have h := q3 n 0 (by omega) (fun j hj => absurd hj (Nat.not_lt_zero j))
  subst hgr
  exact ⟨n + 1, h⟩
theorem my_127 {post : SY → Prop} {tp gr fu pp : Int32} {ce rc tk co ln : Nat → Int32} {nm : Nat → Int64} {nu gn : Nat → Int32} {gk gs : Nat → Int64} {p : Nat} {x : Int64} {z0 : Int32} (hp : p < 12) (hz0 : z0 = 0 ↔ ¬ gs (5 * p + 1) = 0)
    (K : ∀ f, (∀ j, (j < 5 * p + 1 ∨ 5 * p + 5 ≤ j) → f j = gs j) → f (5 * p + 1) = gs (5 * p + 1) + 1 → f (5 * p + 2) = gs (5 * p + 2) + x →
      f (5 * p + 3) = (if gs (5 * p + 1) = 0 ∨ x < gs (5 * p + 3) then x else gs (5 * p + 3)) → f (5 * p + 4) = (if gs (5 * p + 1) = 0 ∨ gs (5 * p + 4) < x then x else gs (5 * p + 4)) → post (tp, gr, fu, pp, ce, rc, tk, co, ln, nm, nu, gn, gk, f)) :
    wY_pair_127 post (nI p) x z0 tp gr fu pp ce rc tk co ln nm nu gn gk gs := by
  have e1 : 5 * nI p + 1 = nI (5 * p + 1) := by rw [mi_5', nI_1]
  have e2 : 5 * nI p + 2 = nI (5 * p + 2) := by rw [mi_5']; exact mi_a (5 * p) 2
  have e3 : 5 * nI p + 3 = nI (5 * p + 3) := by rw [mi_5']; exact mi_a (5 * p) 3
  have e4 : 5 * nI p + 4 = nI (5 * p + 4) := by rw [mi_5']; exact mi_a (5 * p) 4
  have c1 : (nI (5 * p + 1)).toNatClampNeg = 5 * p + 1 := nI_clamp (by omega)
  have c2 : (nI (5 * p + 2)).toNatClampNeg = 5 * p + 2 := nI_clamp (by omega)
  have c3 : (nI (5 * p + 3)).toNatClampNeg = 5 * p + 3 := nI_clamp (by omega)
  have c4 : (nI (5 * p + 4)).toNatClampNeg = 5 * p + 4 := nI_clamp (by omega)
  have i1 : vp_in (nI (5 * p + 1)) 60 := vp_in_nI (by omega) (by decide)
  have i2 : vp_in (nI (5 * p + 2)) 60 := vp_in_nI (by omega) (by decide)
  have i3 : vp_in (nI (5 * p + 3)) 60 := vp_in_nI (by omega) (by decide)
  have i4 : vp_in (nI (5 * p + 4)) 60 := vp_in_nI (by omega) (by decide)
  have hz1 : ¬ z0 = 0 → gs (5 * p + 1) = 0 := fun c => Classical.byContradiction (fun z => c (hz0.mpr z))
  have q191 : ∀ f, (∀ j, (j < 5 * p + 1 ∨ 5 * p + 4 ≤ j) → f j = gs j) → f (5 * p + 1) = gs (5 * p + 1) + 1 → f (5 * p + 2) = gs (5 * p + 2) + x →
      f (5 * p + 3) = (if gs (5 * p + 1) = 0 ∨ x < gs (5 * p + 3) then x else gs (5 * p + 3)) → wY_pair_191 post (nI p) x z0 tp gr fu pp ce rc tk co ln nm nu gn gk f := by
    intro f f0 f1 f2 f3
    have q212 : (gs (5 * p + 1) = 0 ∨ gs (5 * p + 4) < x) → wY_pair_212 post (nI p) x tp gr fu pp ce rc tk co ln nm nu gn gk f := by
      intro hc
      unfold wY_pair_212
      rw [e4, c4]
      refine ⟨i4, nm_e (K _ ?_ ?_ ?_ ?_ ?_)⟩
      · intro j hj
        rw [pk_uLn (by omega)]
        exact f0 j (by omega)
      · rw [pk_uLn (by omega)]; exact f1
      · rw [pk_uLn (by omega)]; exact f2
      · rw [pk_uLn (by omega)]; exact f3
      · rw [pk_uLs, if_pos hc]
    by_cases cz : z0 = 0
    · refine br_t cz ?_
      rw [e4, c4, f0 (5 * p + 4) (by omega)]
      refine ⟨i4, ?_⟩
      by_cases cl : x ≤ gs (5 * p + 4)
      · refine br_t cl (K f (fun j hj => f0 j (by omega)) f1 f2 f3 ?_)
        rw [f0 (5 * p + 4) (by omega), if_neg (fun z => z.elim (hz0.mp cz) (Int64.not_lt.mpr cl))]
      · exact br_f cl (q212 (Or.inr (Int64.not_le.mp cl)))
    · exact br_f cz (q212 (Or.inl (hz1 cz)))
  unfold wY_pair_127
  rw [e1, e2, e3, c1, c2, c3]
  refine ⟨i1, i1, nm_e ⟨i2, i2, nm_e ?_⟩⟩
  have q179 : (gs (5 * p + 1) = 0 ∨ x < gs (5 * p + 3)) → wY_pair_179 post (nI p) x z0 tp gr fu pp ce rc tk co ln nm nu gn gk (vp_updL (vp_updL gs (5 * p + 1) (gs (5 * p + 1) + 1)) (5 * p + 2) (vp_updL gs (5 * p + 1) (gs (5 * p + 1) + 1) (5 * p + 2) + x)) := by
    intro hc
    unfold wY_pair_179
    rw [e3, c3]
    refine ⟨i3, nm_e (q191 _ ?_ ?_ ?_ ?_)⟩
    · intro j hj
      rw [pk_uLn (by omega), pk_uLn (by omega), pk_uLn (by omega)]
    · rw [pk_uLn (by omega), pk_uLn (by omega), pk_uLs]
    · rw [pk_uLn (by omega), pk_uLs, pk_uLn (by omega)]
    · rw [pk_uLs, if_pos hc]
  by_cases cz : z0 = 0
  · refine br_t cz ?_
    rw [pk_uLn (j := 5 * p + 3) (by omega), pk_uLn (j := 5 * p + 3) (by omega)]
    refine ⟨i3, ?_⟩
    by_cases cl : gs (5 * p + 3) ≤ x
    · refine br_t cl (q191 _ ?_ ?_ ?_ ?_)
      · intro j hj
        rw [pk_uLn (by omega), pk_uLn (by omega)]
      · rw [pk_uLn (by omega), pk_uLs]
      · rw [pk_uLs, pk_uLn (by omega)]
      · rw [pk_uLn (by omega), pk_uLn (by omega), if_neg (fun z => z.elim (hz0.mp cz) (Int64.not_lt.mpr cl))]
    · exact br_f cl (q179 (Or.inr (Int64.not_le.mp cl)))
  · exact br_f cz (q179 (Or.inl (hz1 cz)))
end MQ17
end
section
section MQ18
variable {n : Nat → Nat} {D : Nat → Nat → Int32} {m : Nat → Nat} {T C : Nat → Nat → Int32} {s : MqG}
theorem my_n16 {u : SY} (H : mq_YR n D m T C s u) : ∀ t, t < 2 → n t ≤ 16 := by
  obtain ⟨tp, gr, fu, pp, ce, rc, tk, co, ln, nm, nu, gn, gk, gs⟩ := u
  exact fun t ht => (H.1.1 t ht).1
theorem my_c1 {ce rc : Nat → Int32} (HT : mq_TY n D ce rc) {i : Nat} (hi : i < n 0) (jo : Option Nat) : ∀ c, c < 3 → ce (3 * i + c) = mq_P D i jo c := by
  intro c hc
  have e1 : c / 3 = 0 := by omega
  have e2 : c % 3 = c := by omega
  have h := HT.2 c (by omega) i (by rw [e1]; exact hi)
  rw [e1, e2] at h
  unfold mq_P
  rw [if_pos hc, ← h]
  exact congrArg ce (by omega)
theorem my_c2 {ce rc : Nat → Int32} (HT : mq_TY n D ce rc) (i : Nat) {jo : Option Nat} {x : Int32} (hx : mq_jx n jo x) :
    (∃ j, j < 16 ∧ x = nI j ∧ ∀ c, 3 ≤ c → c < 6 → ce (48 + 3 * j + c - 3) = mq_P D i jo c) ∨ (x = -1 ∧ ∀ c, 3 ≤ c → c < 6 → mq_P D i jo c = -2147483648) := by
  rcases hx with ⟨j, hj, ej, ex⟩ | ⟨ej, ex⟩
  · have h16 := (HT.1 1 (by decide)).1
    refine Or.inl ⟨j, by omega, ex, ?_⟩
    intro c c3 c6
    have e1 : c / 3 = 1 := by omega
    have e2 : c % 3 = c - 3 := by omega
    have h := HT.2 c c6 j (by rw [e1]; exact hj)
    rw [e1, e2] at h
    unfold mq_P
    rw [if_neg (by omega), ej]
    show ce (48 + 3 * j + c - 3) = D c j
    rw [← h]
    exact congrArg ce (by omega)
  · refine Or.inr ⟨ex, ?_⟩
    intro c c3 c6
    unfold mq_P
    rw [if_neg (by omega), ej]
theorem my_62 {post : SY → Prop} {tp gr fu pp : Int32} {ce rc tk co ln : Nat → Int32} {nm : Nat → Int64} {nu gn : Nat → Int32} {gk gs : Nat → Int64} {i p : Nat} {jo : Option Nat} {x c : Int32} {s1 : MqG} (hE : mq_EI m T) (HT : mq_TY n D ce rc) (HE : mq_EX m T C tk co ln) (HF : mq_FY s1 gn gk gs) (hgr : gr = nI s1.1) (hpp : pp = c) (hfu : fu = mq_bi s1.2.2.2.1) (hi : i < n 0) (hx : mq_jx n jo x) (hp : p < 12)
    (K : ∀ u', mq_YR n D m T C (s1.1, s1.2.1, (if s1.2.2.2.1 = true then s1.2.2.1 else mq_upS p (mq_ev (T 1) (C 1) (mq_P D i jo) (m 1)) s1.2.2.1), s1.2.2.2.1, c) u' → post u') :
    wY_pair_62 post (nI i) x (nI p) tp gr fu pp ce rc tk co ln nm nu gn gk gs := by
  have h16 := (HT.1 0 (by decide)).1
  cases hb : s1.2.2.2.1 with
  | true =>
    refine br_f (by rw [hfu, hb]; decide) (K _ ⟨HT, HE, ?_, hgr, hpp, hfu⟩)
    rw [if_pos hb]
    exact HF
  | false =>
    refine br_t (by rw [hfu, hb]; rfl) ?_
    refine my_ev (e := 1) (P := mq_P D i jo) HE (by decide) (hE.1 1 (by decide)) hE.2.2.1 (by omega) (my_c1 HT hi jo) (my_c2 HT i hx) ?_
    intro tp nm nu hv _
    have c0 : (nI (5 * p)).toNatClampNeg = 5 * p := nI_clamp (by omega)
    have i0 : vp_in (nI (5 * p)) 60 := vp_in_nI (by omega) (by decide)
    have c1 : (nI (5 * p + 1)).toNatClampNeg = 5 * p + 1 := nI_clamp (by omega)
    have i1 : vp_in (nI (5 * p + 1)) 60 := vp_in_nI (by omega) (by decide)
    dsimp only
    rw [mi_5', c0]
    refine ⟨i0, i0, nm_e ?_⟩
    generalize mq_ev (T 1) (C 1) (mq_P D i jo) (m 1) = v at hv K
    rcases mq_ncase hv with ⟨rfl, h1⟩ | ⟨rfl, h1⟩
    · refine br_f (by rw [h1]; decide) (K _ ⟨HT, HE, ?_, hgr, hpp, hfu⟩)
      refine mq_fy_up HF hb ?_ ?_
      · intro j hj
        exact pk_uLn (by omega)
      · intro j hj
        show _ = (if j = 0 then gs (5 * p + 0) + 1 else gs (5 * p + j))
        by_cases j0 : j = 0
        · subst j0
          rw [if_pos rfl, Nat.add_zero, pk_uLs]
        · rw [if_neg j0, pk_uLn (by omega)]
    · refine br_t h1 (nm_e ?_)
      rw [nI_1, c1, pk_uLn (j := 5 * p + 1) (by omega)]
      refine ⟨i1, ?_⟩
      have q127 : ∀ z0 : Int32, (z0 = 0 ↔ ¬ gs (5 * p + 1) = 0) → wY_pair_127 post (nI p) (nm 0) z0 tp gr fu pp ce rc tk co ln nm nu gn gk (vp_updL gs (5 * p) (gs (5 * p) + 1)) := by
        intro z0 hz0
        refine my_127 hp (by rw [pk_uLn (by omega)]; exact hz0) ?_
        intro f f0 f1 f2 f3 f4
        rw [pk_uLn (j := 5 * p + 1) (by omega)] at f1 f3 f4
        rw [pk_uLn (j := 5 * p + 2) (by omega)] at f2
        rw [pk_uLn (j := 5 * p + 3) (by omega)] at f3
        rw [pk_uLn (j := 5 * p + 4) (by omega)] at f4
        refine K _ ⟨HT, HE, ?_, hgr, hpp, hfu⟩
        refine mq_fy_up HF hb ?_ ?_
        · intro j hj
          rw [f0 j (by omega)]
          exact pk_uLn (by omega)
        · intro j hj
          show f (5 * p + j) = (if j = 0 then gs (5 * p + 0) + 1 else if j = 1 then gs (5 * p + 1) + 1 else if j = 2 then gs (5 * p + 2) + nm 0 else if j = 3 then (if gs (5 * p + 1) = 0 ∨ nm 0 < gs (5 * p + 3) then nm 0 else gs (5 * p + 3)) else if j = 4 then (if gs (5 * p + 1) = 0 ∨ gs (5 * p + 4) < nm 0 then nm 0 else gs (5 * p + 4)) else gs (5 * p + j))
          by_cases j0 : j = 0
          · subst j0
            rw [if_pos rfl, f0 (5 * p + 0) (by omega)]
            exact pk_uLs
          · rw [if_neg j0]
            by_cases j1 : j = 1
            · subst j1
              rw [if_pos rfl]
              exact f1
            · rw [if_neg j1]
              by_cases j2 : j = 2
              · subst j2
                rw [if_pos rfl]
                exact f2
              · rw [if_neg j2]
                by_cases j3 : j = 3
                · subst j3
                  rw [if_pos rfl]
                  exact f3
                · have j4 : j = 4 := by omega
                  subst j4
                  rw [if_neg j3, if_pos rfl]
                  exact f4
      by_cases c2 : gs (5 * p + 1) = 0
      · exact br_t c2 (q127 1 ⟨fun z => absurd z (by decide), fun z => absurd c2 z⟩)
      · exact br_f c2 (q127 0 ⟨fun _ => c2, fun _ => rfl⟩)
theorem my_gcall {post : SY → Prop} {tp gr fu pp : Int32} {ce rc tk co ln : Nat → Int32} {nm : Nat → Int64} {nu gn : Nat → Int32} {gk gs : Nat → Int64} {i : Nat} {jo : Option Nat} {x : Int32} {q : Option Int64} (hE : mq_EI m T) (hs : mq_gi s) (HT : mq_TY n D ce rc) (HE : mq_EX m T C tk co ln) (HF : mq_FY s gn gk gs) (hgr : gr = nI s.1) (hpp : pp = s.2.2.2.2 + 1) (hfu : fu = mq_bi s.2.2.2.1) (hi : i < n 0) (hx : mq_jx n jo x)
    (K : ∀ u', mq_YR n D m T C (mq_hit q (mq_ev (T 1) (C 1) (mq_P D i jo) (m 1)) s) u' → post u') :
    wpY_groupOf (fun r u => match u with | (tp, gr, fu, pp, ce, rc, tk, co, ln, nm, nu, gn, gk, gs) => ((0 ≤ r → (wY_pair_62 post (nI i) x r tp gr fu pp ce rc tk co ln nm nu gn gk gs)) ∧ (¬ 0 ≤ r → (wY_pair_62 post (nI i) x r tp gr 1 pp ce rc tk co ln nm nu gn gk gs)))) (tp, gr, fu, pp, ce, rc, tk, co, ln, nm, nu, gn, gk, gs) (mq_kb q) (mq_kv q) := by
  obtain ⟨g, G, S, b, cc⟩ := s
  obtain ⟨h12, hsrt⟩ := hs
  have h12 : g ≤ 12 := h12
  have hple := mq_plc_le G q g
  refine my_go (n := g) (G := G) (q := q) h12 hgr hsrt (fun i hi => ⟨(HF i hi).1, (HF i hi).2.1⟩) ?_ ?_ ?_
  · intro hf
    refine br_t (nI_pos' (by omega)) ?_
    refine my_62 (s1 := (g, G, S, b, cc)) (c := cc + 1) hE HT HE HF hgr hpp hfu hi hx (by omega) ?_
    intro u' hu
    refine K u' ?_
    unfold mq_hit
    dsimp only
    rw [if_pos hf]
    exact hu
  · intro hf hg
    refine br_f (by decide) ?_
    refine br_f (by decide) (K _ ?_)
    unfold mq_hit
    dsimp only
    rw [if_neg hf, if_pos hg]
    exact ⟨HT, HE, fun i hi => ⟨(HF i hi).1, (HF i hi).2.1, fun z => Bool.noConfusion z⟩, hgr, hpp, rfl⟩
  · intro hf hg
    refine br_t (nI_pos' (by omega)) ?_
    refine my_62 (s1 := (g + 1, mq_ins G (mq_plc G q g) q, mq_ins S (mq_plc G q g) (fun _ => 0), b, cc)) (c := cc + 1) hE HT HE (mq_fy_in HF hple) rfl hpp hfu hi hx (by omega) ?_
    intro u' hu
    refine K u' ?_
    unfold mq_hit
    dsimp only
    rw [if_neg hf, if_neg (by omega)]
    exact hu
theorem my_pair {post : SY → Prop} {u : SY} (hE : mq_EI m T) (hs : mq_gi s) (H : mq_YR n D m T C s u) {i : Nat} (hi : i < n 0) {jo : Option Nat} {x : Int32} (hx : mq_jx n jo x)
    (K : ∀ u', mq_YR n D m T C (mq_q m T C (mq_P D i jo) s) u' → post u') : wpY_pair post u (nI i) x := by
  have h16 := my_n16 H 0 (by decide)
  obtain ⟨tp, gr, fu, pp, ce, rc, tk, co, ln, nm, nu, gn, gk, gs⟩ := u
  obtain ⟨HT, HE, HF, hgr, hpp, hfu⟩ := H
  unfold wpY_pair
  dsimp only
  refine my_ev (e := 0) (P := mq_P D i jo) HE (by decide) (hE.1 0 (by decide)) hE.2.1 (by omega) (my_c1 HT hi jo) (my_c2 HT i hx) ?_
  intro tp nm nu hv htt
  have htt := htt rfl
  dsimp only
  unfold mq_q mq_pair at K
  generalize mq_ev (T 0) (C 0) (mq_P D i jo) (m 0) = v at hv K htt
  rcases mq_tcase hv htt with ⟨rfl, _, h2⟩ | ⟨rfl, _, h2⟩ | ⟨rfl, _, h2⟩
  · rw [if_neg (fun z => nomatch z)] at K
    exact br_f (by rw [h2]; decide) (K _ ⟨HT, HE, HF, hgr, hpp, hfu⟩)
  · rw [if_neg (by decide)] at K
    exact br_f (by rw [h2]; decide) (K _ ⟨HT, HE, HF, hgr, hpp, hfu⟩)
  · rw [if_pos rfl] at K
    refine br_t h2 (nm_e ?_)
    refine my_ev (e := 2) (P := mq_P D i jo) HE (by decide) (hE.1 2 (by decide)) hE.2.2.2 (by omega) (my_c1 HT hi jo) (my_c2 HT i hx) ?_
    intro tp nm nu hv _
    dsimp only
    generalize mq_ev (T 2) (C 2) (mq_P D i jo) (m 2) = q at hv K
    have hq : nu 0 = mq_kb q ∧ nm 0 = mq_kv q := by
      cases q with
      | none => exact ⟨hv.1, hv.2⟩
      | some y => exact ⟨hv.1, hv.2⟩
    rw [hq.1, hq.2]
    exact my_gcall hE hs HT HE HF hgr (by rw [hpp]) hfu hi hx K
/-! a row, and all rows -/
theorem my_155 {post : Int32 → SY → Prop} {J : Int32 → Int32 → Int32 → Int32 → Int32 → (Nat → Int32) → (Nat → Int32) → (Nat → Int32) → (Nat → Int32) → (Nat → Int32) → (Nat → Int64) → (Nat → Int32) → (Nat → Int32) → (Nat → Int64) → (Nat → Int64) → Prop} {u : SY} {x1 x2 x3 : Int32} (hE : mq_EI m T) (hs : mq_gi s) (H : mq_YR n D m T C s u) {i : Nat} (hi : i < n 0)
    (K : ∀ u', mq_YR n D m T C (mq_q m T C (mq_P D i none) s) u' → (fun (u : SY) => match u with | (tp, gr, fu, pp, ce, rc, tk, co, ln, nm, nu, gn, gk, gs) => J (nI (i + 1)) tp gr fu pp ce rc tk co ln nm nu gn gk gs) u') : (fun (u : SY) => match u with | (tp, gr, fu, pp, ce, rc, tk, co, ln, nm, nu, gn, gk, gs) => wY_run_155 post J x1 x2 x3 (nI i) tp gr fu pp ce rc tk co ln nm nu gn gk gs) u := by
  obtain ⟨tp, gr, fu, pp, ce, rc, tk, co, ln, nm, nu, gn, gk, gs⟩ := u
  dsimp only
  unfold wY_run_155
  refine my_pair hE hs H hi (jo := none) (Or.inr ⟨rfl, rfl⟩) ?_
  intro u' hu
  have h := K u' hu
  obtain ⟨tp, gr, fu, pp, ce, rc, tk, co, ln, nm, nu, gn, gk, gs⟩ := u'
  exact nm_r (nI_1 i) h
theorem my_141 {post : Int32 → SY → Prop} {J : Int32 → Int32 → Int32 → Int32 → Int32 → (Nat → Int32) → (Nat → Int32) → (Nat → Int32) → (Nat → Int32) → (Nat → Int32) → (Nat → Int64) → (Nat → Int32) → (Nat → Int32) → (Nat → Int64) → (Nat → Int64) → Prop} {u : SY} {x2 x3 : Int32} (hE : mq_EI m T) (hs : mq_gi s) (H : mq_YR n D m T C s u) {i mo : Nat} (hi : i < n 0) (hmo : mo < 3) {b : Bool}
    (K : ∀ u', mq_YR n D m T C (if mo = 1 ∨ (mo = 2 ∧ b = true) then s else mq_q m T C (mq_P D i none) s) u' → (fun (u : SY) => match u with | (tp, gr, fu, pp, ce, rc, tk, co, ln, nm, nu, gn, gk, gs) => J (nI (i + 1)) tp gr fu pp ce rc tk co ln nm nu gn gk gs) u') : (fun (u : SY) => match u with | (tp, gr, fu, pp, ce, rc, tk, co, ln, nm, nu, gn, gk, gs) => wY_run_141 post J (nI mo) x2 x3 (nI i) (mq_b1 b) tp gr fu pp ce rc tk co ln nm nu gn gk gs) u := by
  by_cases c0 : mo = 0
  · rw [if_neg (by omega)] at K
    have h := my_155 (post := post) (J := J) (x1 := nI mo) (x2 := x2) (x3 := x3) hE hs H hi K
    obtain ⟨tp, gr, fu, pp, ce, rc, tk, co, ln, nm, nu, gn, gk, gs⟩ := u
    exact br_t (by rw [c0]; rfl) h
  · by_cases c2 : mo = 2
    · cases b with
      | true =>
        rw [if_pos (Or.inr ⟨c2, rfl⟩)] at K
        have h := K u H
        obtain ⟨tp, gr, fu, pp, ce, rc, tk, co, ln, nm, nu, gn, gk, gs⟩ := u
        exact br_f (nI_ne0 (by omega) (by omega)) (br_t (by rw [c2]; rfl) (br_f (by decide) (nm_r (nI_1 i) h)))
      | false =>
        rw [if_neg (fun z => z.elim (fun y => by omega) (fun y => nomatch y.2))] at K
        have h := my_155 (post := post) (J := J) (x1 := nI mo) (x2 := x2) (x3 := x3) hE hs H hi K
        obtain ⟨tp, gr, fu, pp, ce, rc, tk, co, ln, nm, nu, gn, gk, gs⟩ := u
        exact br_f (nI_ne0 (by omega) (by omega)) (br_t (by rw [c2]; rfl) (br_t rfl h))
    · rw [if_pos (Or.inl (by omega))] at K
      have h := K u H
      obtain ⟨tp, gr, fu, pp, ce, rc, tk, co, ln, nm, nu, gn, gk, gs⟩ := u
      exact br_f (nI_ne0 (by omega) (by omega)) (br_f (fun z => c2 ((nI_eq (b := 2) (by omega) (by decide)).mp z)) (nm_r (nI_1 i) h))
theorem my_78 {post : Int32 → SY → Prop} {J : Int32 → Int32 → Int32 → Int32 → Int32 → (Nat → Int32) → (Nat → Int32) → (Nat → Int32) → (Nat → Int32) → (Nat → Int32) → (Nat → Int64) → (Nat → Int32) → (Nat → Int32) → (Nat → Int64) → (Nat → Int64) → Prop} {x2 : Int32} (hE : mq_EI m T) (hs : mq_gi s) {i mo l r : Nat} (hi : i < n 0) (hi16 : n 1 ≤ 16) (hmo : mo = 1 ∨ mo = 2) (hr3 : 3 ≤ r) (hr : r < 6)
    (K : ∀ u', mq_YR n D m T C (mq_row m T C D (n 1) mo l r i s) u' → (fun (u : SY) => match u with | (tp, gr, fu, pp, ce, rc, tk, co, ln, nm, nu, gn, gk, gs) => J (nI (i + 1)) tp gr fu pp ce rc tk co ln nm nu gn gk gs) u') :
    ∀ d j, j + d = n 1 → ∀ u, mq_YR n D m T C (mq_jn m T C D l r i s j).1 u → (fun (u : SY) => match u with | (tp, gr, fu, pp, ce, rc, tk, co, ln, nm, nu, gn, gk, gs) => wY_run_78 post J (nI mo) x2 (nI r) (nI i) (D l i) (d + 1) (mq_b1 (mq_jn m T C D l r i s j).2) (nI j) tp gr fu pp ce rc tk co ln nm nu gn gk gs) u := by
  intro d
  induction d with
  | zero =>
    intro j e u H
    have e : j = n 1 := by omega
    subst e
    have h := my_141 (post := post) (J := J) (x2 := x2) (x3 := nI r) (b := (mq_jn m T C D l r i s (n 1)).2) hE (mq_gi_jn hs (n 1)) H hi (mo := mo) (by omega) (by
      unfold mq_row at K
      rw [if_neg (by omega)] at K
      by_cases c1 : mo = 1
      · rw [if_pos (Or.inl c1)] at K
        rw [if_pos (Or.inl c1)]
        exact K
      · have c2 : mo = 2 := by omega
        cases hb : (mq_jn m T C D l r i s (n 1)).2 with
        | true =>
          rw [if_pos (Or.inr hb)] at K
          rw [if_pos (Or.inr ⟨c2, rfl⟩)]
          exact K
        | false =>
          rw [if_neg (fun z => z.elim c1 (fun y => by rw [hb] at y; exact nomatch y))] at K
          rw [if_neg (fun z => z.elim c1 (fun y => nomatch y.2))]
          exact K)
    obtain ⟨tp, gr, fu, pp, ce, rc, tk, co, ln, nm, nu, gn, gk, gs⟩ := u
    refine br_t ?_ h
    rw [(H.1.1 1 (by decide)).2]
    exact nI_le (Nat.le_refl _) (by omega)
  | succ d ih =>
    intro j e u H
    have hstep : mq_jn m T C D l r i s (j + 1) = if D l i ≠ -2147483648 ∧ D l i = D r j then (mq_q m T C (mq_P D i (some j)) (mq_jn m T C D l r i s j).1, true) else mq_jn m T C D l r i s j := rfl
    have hx := ih (j + 1) (by omega)
    rw [hstep] at hx
    obtain ⟨tp, gr, fu, pp, ce, rc, tk, co, ln, nm, nu, gn, gk, gs⟩ := u
    refine br_f ?_ (br_f (nI_nle (by omega) (by omega)) ?_)
    · rw [(H.1.1 1 (by decide)).2]
      exact nI_ge (by omega) (by omega)
    · by_cases c1 : D l i = -2147483648
      · rw [if_neg (fun z => z.1 c1)] at hx
        exact br_t c1 (nm_r (nI_1 j) (hx _ H))
      · refine br_f c1 ?_
        have e2 : r / 3 = 1 := by omega
        have e3 : ce (48 + 3 * j + r - 3) = D r j := by
          rw [← H.1.2 r hr j (by rw [e2]; omega), e2]
          exact congrArg ce (by omega)
        have e4 : 48 + 3 * nI j + nI r - 3 = nI (48 + 3 * j + r - 3) := by
          rw [mi_3', show (48 : Int32) = nI 48 from rfl, nI_add, nI_add, show (3 : Int32) = nI 3 from rfl, pk_sub (by omega)]
        rw [e4, nI_clamp (by omega), e3]
        refine ⟨vp_in_nI (by omega) (by decide), ?_⟩
        by_cases c2 : D r j = D l i
        · rw [if_pos ⟨c1, c2.symm⟩] at hx
          refine br_t c2 ?_
          refine my_pair hE (mq_gi_jn hs j) H hi (jo := some j) (Or.inl ⟨j, by omega, rfl, rfl⟩) ?_
          intro u' hu
          have hx2 := hx u' hu
          obtain ⟨tp, gr, fu, pp, ce, rc, tk, co, ln, nm, nu, gn, gk, gs⟩ := u'
          exact nm_r (nI_1 j) hx2
        · rw [if_neg (fun z => c2 z.2.symm)] at hx
          exact br_f c2 (nm_r (nI_1 j) (hx _ H))
theorem my_row {post : Int32 → SY → Prop} {J : Int32 → Int32 → Int32 → Int32 → Int32 → (Nat → Int32) → (Nat → Int32) → (Nat → Int32) → (Nat → Int32) → (Nat → Int32) → (Nat → Int64) → (Nat → Int32) → (Nat → Int32) → (Nat → Int64) → (Nat → Int64) → Prop} {x2 : Int32} {u : SY} (hE : mq_EI m T) (hs : mq_gi s) (H : mq_YR n D m T C s u) {i mo l r : Nat} (hi : i < n 0) (hmo : mo < 3) (hr3 : 3 ≤ r) (hr : r < 6)
    (K : ∀ u', mq_YR n D m T C (mq_row m T C D (n 1) mo l r i s) u' → (fun (u : SY) => match u with | (tp, gr, fu, pp, ce, rc, tk, co, ln, nm, nu, gn, gk, gs) => J (nI (i + 1)) tp gr fu pp ce rc tk co ln nm nu gn gk gs) u') :
    (fun (u : SY) => match u with | (tp, gr, fu, pp, ce, rc, tk, co, ln, nm, nu, gn, gk, gs) => ∃ k : Nat, wY_run_78 post J (nI mo) x2 (nI r) (nI i) (D l i) k 0 0 tp gr fu pp ce rc tk co ln nm nu gn gk gs) u := by
  have h1 := my_n16 H 1 (by decide)
  by_cases c0 : mo = 0
  · have h := my_141 (post := post) (J := J) (x2 := x2) (x3 := nI r) (b := false) hE hs H hi hmo (by
      unfold mq_row at K
      rw [if_pos c0] at K
      rw [if_neg (by omega)]
      exact K)
    obtain ⟨tp, gr, fu, pp, ce, rc, tk, co, ln, nm, nu, gn, gk, gs⟩ := u
    refine ⟨1, ?_⟩
    by_cases c1 : n 1 = 0
    · refine br_t ?_ h
      rw [(H.1.1 1 (by decide)).2, c1]
      decide
    · refine br_f ?_ (br_t (by rw [c0]; decide) h)
      rw [(H.1.1 1 (by decide)).2]
      exact nI_nle (by omega) (by omega)
  · have h := my_78 (post := post) (J := J) (x2 := x2) hE hs hi h1 (by omega : mo = 1 ∨ mo = 2) hr3 hr K (n 1) 0 (by omega) u H
    obtain ⟨tp, gr, fu, pp, ce, rc, tk, co, ln, nm, nu, gn, gk, gs⟩ := u
    exact ⟨n 1 + 1, h⟩
theorem my_run {post : Int32 → SY → Prop} {u : SY} (hE : mq_EI m T) (H : mq_YR n D m T C s u) {mo l r : Nat} (hmo : mo < 3) (hl : l < 3) (hr3 : 3 ≤ r) (hr : r < 6)
    (K : ∀ u', mq_YR n D m T C (mq_end (mq_rows m T C D (n 1) mo l r (n 0))) u' → post (mq_ans (mq_rows m T C D (n 1) mo l r (n 0))) u') : wpY_run post u (nI mo) (nI l) (nI r) := by
  have h0 := my_n16 H 0 (by decide)
  have q48 : ∀ d i, i + d = n 0 → ∀ u, mq_YR n D m T C (mq_rows m T C D (n 1) mo l r i) u → (fun (u : SY) => match u with | (tp, gr, fu, pp, ce, rc, tk, co, ln, nm, nu, gn, gk, gs) => wY_run_48 post (nI mo) (nI l) (nI r) (d + 1) (nI i) tp gr fu pp ce rc tk co ln nm nu gn gk gs) u := by
    intro d
    induction d with
    | zero =>
      intro i e u H
      have e : i = n 0 := by omega
      subst e
      obtain ⟨tp, gr, fu, pp, ce, rc, tk, co, ln, nm, nu, gn, gk, gs⟩ := u
      refine br_t (by rw [(H.1.1 0 (by decide)).2]; exact nI_le (Nat.le_refl _) (by omega)) ?_
      obtain ⟨HT, HE, HF, hgr, hpp, hfu⟩ := H
      generalize mq_rows m T C D (n 1) mo l r (n 0) = s' at HF hgr hpp hfu K
      obtain ⟨g, G, S, b, cc⟩ := s'
      unfold mq_end mq_ans at K
      dsimp only at K
      cases b with
      | true =>
        rw [if_pos rfl, if_pos rfl] at K
        have hfu' : fu = 1 := hfu
        have h1 : ¬ fu = 0 := by rw [hfu']; decide
        exact br_f h1 (br_f h1 (K _ ⟨HT, HE, fun i hi => absurd hi (Nat.not_lt_zero i), rfl, hpp, hfu⟩))
      | false =>
        rw [if_neg (by decide), if_neg (by decide)] at K
        have hgr : gr = nI g := hgr
        have hfu' : fu = 0 := hfu
        refine br_t hfu' (br_t hfu' ?_)
        subst hgr
        exact K _ ⟨HT, HE, HF, rfl, hpp, hfu⟩
    | succ d ih =>
      intro i e u H
      have hrow := my_row (post := post) (J := wY_run_48 post (nI mo) (nI l) (nI r) (d + 1)) (x2 := nI l) (l := l) hE (mq_gi_rows i) H (by omega) hmo hr3 hr (fun u' hu => ih (i + 1) (by omega) u' hu)
      obtain ⟨tp, gr, fu, pp, ce, rc, tk, co, ln, nm, nu, gn, gk, gs⟩ := u
      refine br_f (by rw [(H.1.1 0 (by decide)).2]; exact nI_ge (by omega) (by omega)) ?_
      have e2 : l / 3 = 0 := by omega
      have e5 : l % 3 = l := by omega
      have e3 : ce (3 * i + l) = D l i := by
        rw [← H.1.2 l (by omega) i (by rw [e2]; omega), e2, e5]
        exact congrArg ce (by omega)
      rw [mi_3', nI_add, nI_clamp (by omega), e3]
      exact ⟨vp_in_nI (by omega) (by decide), nm_e hrow⟩
  obtain ⟨tp, gr, fu, pp, ce, rc, tk, co, ln, nm, nu, gn, gk, gs⟩ := u
  obtain ⟨HT, HE, HF, hgr, hpp, hfu⟩ := H
  refine br_f (nI_pos (by omega)) (br_f (nI_nlt (a := 2) (by omega) (by decide)) (br_f (nI_pos (by omega)) (br_f (nI_nlt (a := 2) (by omega) (by decide)) (br_f (nI_nlt (b := 3) hr3 (by omega)) (br_t (nI_le (b := 5) (by omega) (by decide)) ⟨n 0 + 1, ?_⟩)))))
  exact q48 (n 0) 0 (by omega) (tp, 0, 0, 0, ce, rc, tk, co, ln, nm, nu, gn, gk, gs) ⟨HT, HE, fun i hi => absurd hi (Nat.not_lt_zero i), rfl, rfl, rfl⟩
theorem my_runn {post : Int32 → SY → Prop} {u : SY} {x y z : Int32} (hx : x < 0 ∨ nI 3 ≤ x ∨ y < 0 ∨ nI 3 ≤ y ∨ z < nI 3 ∨ nI 6 ≤ z) (h : post (-1) u) : wpY_run post u x y z := by
  have g2 : ∀ w : Int32, ¬ w < 0 → nI 3 ≤ w → 2 < w := by
    intro w hw h3
    obtain ⟨j, hj, rfl⟩ := nI_of hw
    exact nI_lt (a := 2) ((nI_leI (by decide) hj).mp h3) hj
  obtain ⟨tp, gr, fu, pp, ce, rc, tk, co, ln, nm, nu, gn, gk, gs⟩ := u
  by_cases c1 : x < 0
  · exact br_t c1 h
  · refine br_f c1 ?_
    by_cases c2 : 2 < x
    · exact br_t c2 h
    · refine br_f c2 ?_
      have hx3 := (hx.resolve_left c1).resolve_left (fun w => c2 (g2 x c1 w))
      by_cases c3 : y < 0
      · exact br_t c3 h
      · refine br_f c3 ?_
        by_cases c4 : 2 < y
        · exact br_t c4 h
        · refine br_f c4 ?_
          have hx5 := (hx3.resolve_left c3).resolve_left (fun w => c4 (g2 y c3 w))
          by_cases c5 : z < nI 3
          · exact br_t c5 h
          · refine br_f c5 (br_f ?_ h)
            have h6 := hx5.resolve_left c5
            rw [Int32.not_le]
            rw [Int32.le_iff_toInt_le] at h6
            rw [Int32.lt_iff_toInt_lt]
            have q5 : (5 : Int32).toInt = 5 := by decide
            have q6 : (nI 6).toInt = 6 := by decide
            omega
theorem i_vc_run {k : Nat} {u : SX} {v : SY} (I : i_Rel k u v) (hk : k + 5 ≤ 2560) (v1 : Int32) (v2 : Int32) (v3 : Int32) : wpX_run (fun r u' => wpY_run (fun r' v' => r' = r ∧ i_Rel (k + 5) u' v') v v1 v2 v3) u v1 v2 v3 := by
  have I2 := I
  obtain ⟨n, D, m, T, C, s, hI, hX, hY⟩ := I
  have bad : (v1 < 0 ∨ nI 3 ≤ v1 ∨ v2 < 0 ∨ nI 3 ≤ v2 ∨ v3 < nI 3 ∨ nI 6 ≤ v3) → wpX_run (fun r u' => wpY_run (fun r' v' => r' = r ∧ i_Rel (k + 5) u' v') v v1 v2 v3) u v1 v2 v3 := fun h => mx_runn h (my_runn h ⟨rfl, I2⟩)
  rcases pk_ix v1 (n := 3) (by decide) with h | h | ⟨mo, hmo, rfl⟩
  · exact bad (Or.inl h)
  · exact bad (Or.inr (Or.inl h))
  · rcases pk_ix v2 (n := 3) (by decide) with h | h | ⟨l, hl, rfl⟩
    · exact bad (Or.inr (Or.inr (Or.inl h)))
    · exact bad (Or.inr (Or.inr (Or.inr (Or.inl h))))
    · rcases pk_ix v3 (n := 6) (by decide) with h | h | ⟨r, hr, rfl⟩
      · refine bad (Or.inr (Or.inr (Or.inr (Or.inr (Or.inl ?_)))))
        rw [Int32.lt_iff_toInt_lt] at h ⊢
        have q0 : (0 : Int32).toInt = 0 := by decide
        have q3 : (nI 3).toInt = 3 := by decide
        omega
      · exact bad (Or.inr (Or.inr (Or.inr (Or.inr (Or.inr h)))))
      · by_cases hr3 : 3 ≤ r
        · refine mx_run hI.1 hX hmo hl hr3 hr (fun u' hX' => my_run hI.1 hY hmo hl hr3 hr (fun v' hY' => ⟨rfl, _, _, _, _, _, _, ⟨hI.1, ?_, ?_⟩, hX', hY'⟩))
          · have hg := mq_gi_rows (m := m) (T := T) (C := C) (D := D) (n1 := n 1) (mo := mo) (l := l) (r := r) (n 0)
            unfold mq_end
            split
            · exact ⟨Nat.zero_le 12, fun i j _ h => absurd h (Nat.not_lt_zero j)⟩
            · exact hg
          · unfold mq_end
            split
            · exact fun _ => rfl
            · rename_i hb
              exact fun z => absurd z hb
        · exact bad (Or.inr (Or.inr (Or.inr (Or.inr (Or.inl (nI_lt (by omega) (by decide)))))))
end MQ18
end
