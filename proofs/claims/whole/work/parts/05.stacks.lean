section MQS
/-! the two stacks -/
def mq_rx (nu : Int32) (x : Int64) (v : Option Int64) : Prop := match v with
  | none => nu = 1
  | some y => nu = 0 ∧ x = y
def mq_ry (k : Bool) (nu : Int32) (x : Int64) (v : Option Int64) : Prop := match v with
  | none => if k = true then nu = 0 ∧ x = 2 else nu = 1 ∧ x = 0
  | some y => nu = 0 ∧ x = y
def mq_SX (nu : Nat → Int32) (nm : Nat → Int64) (h : Nat) (v : Nat → Option Int64) : Prop := ∀ j, j < h → mq_rx (nu (19 - j)) (nm (19 - j)) (v j)
def mq_SY (nu : Nat → Int32) (nm : Nat → Int64) (h : Nat) (k : Nat → Bool) (v : Nat → Option Int64) : Prop := ∀ j, j < h → mq_ry (k j) (nu j) (nm j) (v j)
def mq_k2 : Bool → Int32
  | true => 2
  | false => 1
def mq_k1 : Bool → Int64
  | true => 1
  | false => 0
def mq_KX (ki : Nat → Int32) (h : Nat) (k : Nat → Bool) : Prop := ∀ j, j < h → ki (19 - j) = mq_k2 (k j)
def mq_KY (nm : Nat → Int64) (h : Nat) (k : Nat → Bool) : Prop := ∀ j, j < h → nm j = mq_k1 (k j)
theorem mq_sx_p {nu : Nat → Int32} {nm : Nat → Int64} {h i : Nat} {v : Nat → Option Int64} {a : Int32} {b : Int64} {w : Option Int64} (H : mq_SX nu nm h v) (hi : i ≤ h) (h2 : i < 20) (hw : mq_rx a b w) :
    mq_SX (upd nu (19 - i) a) (vp_updL nm (19 - i) b) (i + 1) (fun j => if j = i then w else v j) := by
  intro j hj
  dsimp only
  by_cases e : j = i
  · subst e
    rw [if_pos rfl, pk_us, pk_uLs]
    exact hw
  · rw [if_neg e, pk_un (by omega), pk_uLn (by omega)]
    exact H j (by omega)
theorem mq_sy_p {nu : Nat → Int32} {nm : Nat → Int64} {h i : Nat} {k : Nat → Bool} {v : Nat → Option Int64} {a : Int32} {b : Int64} {kk : Bool} {w : Option Int64} (H : mq_SY nu nm h k v) (hi : i ≤ h) (hw : mq_ry kk a b w) :
    mq_SY (upd nu i a) (vp_updL nm i b) (i + 1) (fun j => if j = i then kk else k j) (fun j => if j = i then w else v j) := by
  intro j hj
  dsimp only
  by_cases e : j = i
  · subst e
    rw [if_pos rfl, if_pos rfl, pk_us, pk_uLs]
    exact hw
  · rw [if_neg e, if_neg e, pk_un e, pk_uLn e]
    exact H j (by omega)
theorem mq_kx_p {ki : Nat → Int32} {h i : Nat} {k : Nat → Bool} {kk : Bool} {a : Int32} (H : mq_KX ki h k) (hi : i ≤ h) (h2 : i < 20) (ha : a = mq_k2 kk) :
    mq_KX (upd ki (19 - i) a) (i + 1) (fun j => if j = i then kk else k j) := by
  intro j hj
  dsimp only
  by_cases e : j = i
  · subst e
    rw [if_pos rfl, pk_us]
    exact ha
  · rw [if_neg e, pk_un (by omega)]
    exact H j (by omega)
theorem mq_ky_p {nm : Nat → Int64} {h i : Nat} {k : Nat → Bool} {kk : Bool} {a : Int64} (H : mq_KY nm h k) (hi : i ≤ h) (ha : a = mq_k1 kk) :
    mq_KY (vp_updL nm i a) (i + 1) (fun j => if j = i then kk else k j) := by
  intro j hj
  dsimp only
  by_cases e : j = i
  · subst e
    rw [if_pos rfl, pk_uLs]
    exact ha
  · rw [if_neg e, pk_uLn e]
    exact H j (by omega)
end MQS
