section MQP
/-! tokens: operands, kinds -/
def mq_ar (t : Int32) : Nat := if t ≤ 5 ∨ t = 40 then 0 else if t = 15 ∨ t = 32 ∨ t = 33 then 1 else if t = 34 then 3 else 2
def mq_tr (t : Int32) : Bool := decide (20 ≤ t) && decide (t ≤ 33)
def mq_wt (t : Int32) (k : Nat) : Bool := decide (t = 30) || decide (t = 31) || decide (t = 32) || (decide (t = 34) && decide (k = 0))
def mq_tk : List Int32 := [0, 1, 2, 3, 4, 5, 10, 11, 12, 13, 14, 15, 16, 20, 21, 22, 23, 30, 31, 32, 33, 34, 40]
def mq_lf (v : Int32) : Option Int64 := if v = -2147483648 then none else some v.toInt64
def mq_b2 (f : Int64 → Int64 → Option Int64) : Option Int64 → Option Int64 → Option Int64
  | some x, some y => f x y
  | _, _ => none
def mq_op (t : Int32) (a b c : Option Int64) : Option Int64 :=
  if t = 10 then mq_b2 (fun x y => some (x + y)) a b
  else if t = 11 then mq_b2 (fun x y => some (x - y)) a b
  else if t = 12 then mq_b2 (fun x y => some (x * y)) a b
  else if t = 13 then mq_b2 (fun x y => if y = 0 then none else some (x / y)) a b
  else if t = 14 then mq_b2 (fun x y => if y = 0 then none else some (x - x / y * y)) a b
  else if t = 15 then mq_b2 (fun x _ => some (-x)) a a
  else if t = 16 then (if a = none then b else a)
  else if t = 20 then mq_b2 (fun x y => some (if x = y then 1 else 0)) a b
  else if t = 21 then mq_b2 (fun x y => some (if x < y then 1 else 0)) a b
  else if t = 22 then mq_b2 (fun x y => some (if x ≤ y then 1 else 0)) a b
  else if t = 23 then mq_b2 (fun x y => some (if x = y then 0 else 1)) a b
  else if t = 30 then (if a = some 0 ∨ b = some 0 then some 0 else if a = none ∨ b = none then none else some 1)
  else if t = 31 then (if a = some 1 ∨ b = some 1 then some 1 else if a = none ∨ b = none then none else some 0)
  else if t = 32 then mq_b2 (fun x _ => some (if x = 0 then 1 else 0)) a a
  else if t = 33 then (if a = none then some 1 else some 0)
  else (if a = some 1 then b else c)
def mq_val (t c : Int32) (P : Nat → Int32) (x y z : Option Int64) : Option Int64 :=
  if t = 40 then mq_lf c else if t ≤ 5 then mq_lf (P t.toNatClampNeg) else mq_op t x y z
/-! the stack after d tokens, read from the end; numbered from its bottom -/
def mq_h (T : Nat → Int32) (len : Nat) : Nat → Nat
  | 0 => 0
  | d + 1 => mq_h T len d - mq_ar (T (len - 1 - d)) + 1
def mq_k (T : Nat → Int32) (len : Nat) : Nat → Nat → Bool
  | 0 => fun _ => false
  | d + 1 => fun j => if j = mq_h T len d - mq_ar (T (len - 1 - d)) then mq_tr (T (len - 1 - d)) else mq_k T len d j
def mq_v (T C P : Nat → Int32) (len : Nat) : Nat → Nat → Option Int64
  | 0 => fun _ => none
  | d + 1 => fun j => if j = mq_h T len d - mq_ar (T (len - 1 - d)) then
      mq_val (T (len - 1 - d)) (C (len - 1 - d)) P (mq_v T C P len d (mq_h T len d - 1)) (mq_v T C P len d (mq_h T len d - 2)) (mq_v T C P len d (mq_h T len d - 3))
    else mq_v T C P len d j
def mq_ok (T : Nat → Int32) (len d : Nat) : Prop :=
  mq_ar (T (len - 1 - d)) ≤ mq_h T len d ∧ ∀ k, k < mq_ar (T (len - 1 - d)) → mq_k T len d (mq_h T len d - 1 - k) = mq_wt (T (len - 1 - d)) k
def mq_WK (T : Nat → Int32) (len : Nat) (b : Bool) : Prop := (∀ d, d < len → mq_ok T len d) ∧ mq_h T len len = 1 ∧ mq_k T len len 0 = b
def mq_ev (T C P : Nat → Int32) (len : Nat) : Option Int64 := mq_v T C P len len 0
def mq_tt (v : Option Int64) : Prop := v = none ∨ v = some 0 ∨ v = some 1
theorem mq_h_le (T : Nat → Int32) (len : Nat) : ∀ d, mq_h T len d ≤ d := by
  intro d
  induction d with
  | zero => exact Nat.le_refl 0
  | succ d ih => show mq_h T len d - _ + 1 ≤ d + 1; omega
theorem mq_h_s (T : Nat → Int32) (len d : Nat) : mq_h T len (d + 1) = mq_h T len d - mq_ar (T (len - 1 - d)) + 1 := rfl
theorem mq_ar3 (t : Int32) : mq_ar t ≤ 3 := by
  unfold mq_ar
  split
  · omega
  · split
    · omega
    · split <;> omega
theorem mq_tt_if {p : Prop} [Decidable p] : mq_tt (some (if p then 1 else 0)) := by
  by_cases h : p
  · rw [if_pos h]; exact Or.inr (Or.inr rfl)
  · rw [if_neg h]; exact Or.inr (Or.inl rfl)
theorem mq_tt_if' {p : Prop} [Decidable p] : mq_tt (some (if p then 0 else 1)) := by
  by_cases h : p
  · rw [if_pos h]; exact Or.inr (Or.inl rfl)
  · rw [if_neg h]; exact Or.inr (Or.inr rfl)
theorem mq_tt_b2 {f : Int64 → Int64 → Option Int64} (h : ∀ x y, mq_tt (f x y)) (a b : Option Int64) : mq_tt (mq_b2 f a b) := by
  cases a with
  | none => exact Or.inl rfl
  | some x =>
    cases b with
    | none => exact Or.inl rfl
    | some y => exact h x y
theorem mq_tt_op {t : Int32} (ht : t ∈ mq_tk) (hk : mq_tr t = true) (c : Int32) (P : Nat → Int32) (x y z : Option Int64) : mq_tt (mq_val t c P x y z) := by
  have h8 : t = 20 ∨ t = 21 ∨ t = 22 ∨ t = 23 ∨ t = 30 ∨ t = 31 ∨ t = 32 ∨ t = 33 := by
    revert t
    decide +kernel
  rcases h8 with rfl | rfl | rfl | rfl | rfl | rfl | rfl | rfl
  · exact mq_tt_b2 (fun _ _ => mq_tt_if) x y
  · exact mq_tt_b2 (fun _ _ => mq_tt_if) x y
  · exact mq_tt_b2 (fun _ _ => mq_tt_if) x y
  · exact mq_tt_b2 (fun _ _ => mq_tt_if') x y
  · show mq_tt (if x = some 0 ∨ y = some 0 then some 0 else if x = none ∨ y = none then none else some 1)
    split
    · exact Or.inr (Or.inl rfl)
    · split
      · exact Or.inl rfl
      · exact Or.inr (Or.inr rfl)
  · show mq_tt (if x = some 1 ∨ y = some 1 then some 1 else if x = none ∨ y = none then none else some 0)
    split
    · exact Or.inr (Or.inr rfl)
    · split
      · exact Or.inl rfl
      · exact Or.inr (Or.inl rfl)
  · exact mq_tt_b2 (fun _ _ => mq_tt_if) x x
  · show mq_tt (if x = none then some 1 else some 0)
    split
    · exact Or.inr (Or.inr rfl)
    · exact Or.inr (Or.inl rfl)
/-- kinds hold: where a truth stands, the value is a truth -/
theorem mq_ty {T C P : Nat → Int32} {len : Nat} (hT : ∀ i, i < len → T i ∈ mq_tk) : ∀ d, d ≤ len → ∀ j, mq_k T len d j = true → mq_tt (mq_v T C P len d j) := by
  intro d
  induction d with
  | zero => intro _ j h; exact absurd h (by show ¬ (false = true); decide)
  | succ d ih =>
    intro hd j h
    have h1 : (if j = mq_h T len d - mq_ar (T (len - 1 - d)) then mq_tr (T (len - 1 - d)) else mq_k T len d j) = true := h
    show mq_tt (if j = mq_h T len d - mq_ar (T (len - 1 - d)) then _ else mq_v T C P len d j)
    by_cases e : j = mq_h T len d - mq_ar (T (len - 1 - d))
    · rw [if_pos e] at h1
      rw [if_pos e]
      exact mq_tt_op (hT _ (by omega)) h1 _ _ _ _ _
    · rw [if_neg e] at h1
      rw [if_neg e]
      exact ih (by omega) j h1
/-! groups: the order of keys, the place of a key -/
def mq_lt : Option Int64 → Option Int64 → Bool
  | none, some _ => true
  | some a, some b => decide (a < b)
  | _, none => false
theorem mq_lt_ir (a : Option Int64) : mq_lt a a = false := by
  cases a with
  | none => rfl
  | some x => show decide (x < x) = false; exact decide_eq_false (Int64.lt_irrefl)
theorem mq_lt_tr {a b c : Option Int64} (h1 : mq_lt a b = true) (h2 : mq_lt b c = true) : mq_lt a c = true := by
  cases c with
  | none => cases b <;> exact Bool.noConfusion h2
  | some z =>
    cases b with
    | none => cases a <;> exact Bool.noConfusion h1
    | some y =>
      cases a with
      | none => rfl
      | some x =>
        have e1 : x < y := of_decide_eq_true h1
        have e2 : y < z := of_decide_eq_true h2
        exact decide_eq_true (Int64.lt_trans e1 e2)
theorem mq_lt_to {a b : Option Int64} (h : a ≠ b) (h1 : mq_lt a b = false) : mq_lt b a = true := by
  cases a with
  | none =>
    cases b with
    | none => exact absurd rfl h
    | some y => exact absurd h1 (by show ¬ (true = false); decide)
  | some x =>
    cases b with
    | none => rfl
    | some y =>
      have e1 : ¬ x < y := of_decide_eq_false h1
      apply decide_eq_true
      have hne : x ≠ y := fun e => h (by rw [e])
      rw [Int64.lt_iff_toInt_lt] at e1
      rw [Int64.lt_iff_toInt_lt]
      have : x.toInt ≠ y.toInt := fun e => hne (Int64.toInt_inj.mp e)
      omega
def mq_srt (n : Nat) (K : Nat → Option Int64) : Prop := ∀ i j, i < j → j < n → mq_lt (K i) (K j) = true
def mq_plc (K : Nat → Option Int64) (q : Option Int64) : Nat → Nat
  | 0 => 0
  | i + 1 => if mq_lt (K i) q = true then i + 1 else mq_plc K q i
theorem mq_plc_le (K : Nat → Option Int64) (q : Option Int64) : ∀ n, mq_plc K q n ≤ n := by
  intro n
  induction n with
  | zero => exact Nat.le_refl 0
  | succ n ih =>
    show (if mq_lt (K n) q = true then n + 1 else mq_plc K q n) ≤ n + 1
    split <;> omega
theorem mq_plc_hi {K : Nat → Option Int64} {q : Option Int64} : ∀ n i, mq_plc K q n ≤ i → i < n → mq_lt (K i) q = false := by
  intro n
  induction n with
  | zero => intro i _ h; omega
  | succ n ih =>
    intro i h1 h2
    have h3 : (if mq_lt (K n) q = true then n + 1 else mq_plc K q n) ≤ i := h1
    by_cases e : mq_lt (K n) q = true
    · rw [if_pos e] at h3; omega
    · rw [if_neg e] at h3
      by_cases e2 : i = n
      · rw [e2]; exact Bool.eq_false_iff.mpr e
      · exact ih i h3 (by omega)
theorem mq_plc_lo {K : Nat → Option Int64} {q : Option Int64} : ∀ n, mq_srt n K → ∀ i, i < mq_plc K q n → mq_lt (K i) q = true := by
  intro n
  induction n with
  | zero => intro _ i h; exact absurd h (Nat.not_lt_zero i)
  | succ n ih =>
    intro hs i h
    have h3 : i < (if mq_lt (K n) q = true then n + 1 else mq_plc K q n) := h
    by_cases e : mq_lt (K n) q = true
    · rw [if_pos e] at h3
      by_cases e2 : i = n
      · rw [e2]; exact e
      · exact mq_lt_tr (hs i n (by omega) (by omega)) e
    · rw [if_neg e] at h3
      exact ih (fun a b hab hb => hs a b hab (by omega)) i h3
theorem mq_plc_eq {K : Nat → Option Int64} {q : Option Int64} {n i : Nat} (hs : mq_srt n K) (hi : i < n) (e : K i = q) : mq_plc K q n = i := by
  have h1 : ¬ i < mq_plc K q n := by
    intro h
    have := mq_plc_lo n hs i h
    rw [e, mq_lt_ir] at this
    exact absurd this (by decide)
  by_cases h2 : mq_plc K q n < i
  · have h3 := mq_plc_hi n (mq_plc K q n) (Nat.le_refl _) (by omega)
    have h4 := hs (mq_plc K q n) i h2 hi
    rw [e, h3] at h4
    exact absurd h4 (by decide)
  · omega
def mq_ins {α : Type} (f : Nat → α) (p : Nat) (x : α) : Nat → α := fun j => if j < p then f j else if j = p then x else f (j - 1)
theorem mq_ins_lo {α : Type} {f : Nat → α} {p j : Nat} {x : α} (h : j < p) : mq_ins f p x j = f j := if_pos h
theorem mq_ins_eq {α : Type} {f : Nat → α} {p : Nat} {x : α} : mq_ins f p x p = x := by
  show (if p < p then f p else if p = p then x else f (p - 1)) = x
  rw [if_neg (Nat.lt_irrefl p), if_pos rfl]
theorem mq_ins_hi {α : Type} {f : Nat → α} {p j : Nat} {x : α} (h : p < j) : mq_ins f p x j = f (j - 1) := by
  show (if j < p then f j else if j = p then x else f (j - 1)) = f (j - 1)
  rw [if_neg (by omega), if_neg (by omega)]
theorem mq_srt_ins {n : Nat} {K : Nat → Option Int64} {q : Option Int64} (hs : mq_srt n K) (hq : ∀ i, i < n → K i ≠ q) : mq_srt (n + 1) (mq_ins K (mq_plc K q n) q) := by
  intro i j hij hj
  have hp := mq_plc_le K q n
  have hlo := mq_plc_lo (q := q) n hs
  have hhi := mq_plc_hi (K := K) (q := q) n
  generalize mq_plc K q n = p at hp hlo hhi
  by_cases h1 : j < p
  · rw [mq_ins_lo h1, mq_ins_lo (by omega)]
    exact hs i j hij (by omega)
  · by_cases h2 : j = p
    · rw [h2, mq_ins_eq, mq_ins_lo (by omega)]
      exact hlo i (by omega)
    · rw [mq_ins_hi (j := j) (by omega)]
      by_cases h3 : i < p
      · rw [mq_ins_lo h3]
        exact hs i (j - 1) (by omega) (by omega)
      · by_cases h4 : i = p
        · rw [h4, mq_ins_eq]
          exact mq_lt_to (hq (j - 1) (by omega)) (hhi (j - 1) (by omega) (by omega))
        · rw [mq_ins_hi (by omega)]
          exact hs (i - 1) (j - 1) (by omega) (by omega)
/-! the groups of a run: number, keys, facts (pairs, values, sum, least, greatest), too many, passed -/
abbrev MqG : Type := Nat × (Nat → Option Int64) × (Nat → Nat → Int64) × Bool × Int32
def mq_add (x : Option Int64) (f : Nat → Int64) : Nat → Int64 := match x with
  | none => fun s => if s = 0 then f 0 + 1 else f s
  | some x => fun s => if s = 0 then f 0 + 1 else if s = 1 then f 1 + 1 else if s = 2 then f 2 + x
      else if s = 3 then (if f 1 = 0 ∨ x < f 3 then x else f 3) else if s = 4 then (if f 1 = 0 ∨ f 4 < x then x else f 4) else f s
def mq_upS (p : Nat) (x : Option Int64) (S : Nat → Nat → Int64) : Nat → Nat → Int64 := fun i => if i = p then mq_add x (S i) else S i
/-- one passing pair with key q and value x -/
def mq_hit (q x : Option Int64) (s : MqG) : MqG :=
  if mq_plc s.2.1 q s.1 < s.1 ∧ s.2.1 (mq_plc s.2.1 q s.1) = q then
    (s.1, s.2.1, (if s.2.2.2.1 = true then s.2.2.1 else mq_upS (mq_plc s.2.1 q s.1) x s.2.2.1), s.2.2.2.1, s.2.2.2.2 + 1)
  else if 12 ≤ s.1 then (s.1, s.2.1, s.2.2.1, true, s.2.2.2.2 + 1)
  else (s.1 + 1, mq_ins s.2.1 (mq_plc s.2.1 q s.1) q, (if s.2.2.2.1 = true then mq_ins s.2.2.1 (mq_plc s.2.1 q s.1) (fun _ => 0) else mq_upS (mq_plc s.2.1 q s.1) x (mq_ins s.2.2.1 (mq_plc s.2.1 q s.1) (fun _ => 0))), s.2.2.2.1, s.2.2.2.2 + 1)
def mq_pair (f q x : Option Int64) (s : MqG) : MqG := if f = some 1 then mq_hit q x s else s
def mq_gi (s : MqG) : Prop := s.1 ≤ 12 ∧ mq_srt s.1 s.2.1
theorem mq_gi_hit {q x : Option Int64} {s : MqG} (h : mq_gi s) : mq_gi (mq_hit q x s) := by
  obtain ⟨n, K, S, b, c⟩ := s
  obtain ⟨h1, h2⟩ := h
  have h1 : n ≤ 12 := h1
  have h2 : mq_srt n K := h2
  unfold mq_hit
  dsimp only
  split
  · exact ⟨h1, h2⟩
  · split
    · exact ⟨h1, h2⟩
    · rename_i h3 h4
      refine ⟨by show n + 1 ≤ 12; omega, mq_srt_ins h2 ?_⟩
      intro i hi e
      have := mq_plc_eq h2 hi e
      exact h3 ⟨by omega, by rw [this]; exact e⟩
theorem mq_gi_pair {f q x : Option Int64} {s : MqG} (h : mq_gi s) : mq_gi (mq_pair f q x s) := by
  unfold mq_pair
  split
  · exact mq_gi_hit h
  · exact h
end MQP
