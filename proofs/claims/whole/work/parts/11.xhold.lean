section MQ11
theorem mq_z10 : ¬ (1 : Int32) = 0 := by decide
theorem mx_hcell {post : SX → Prop} {gc pc tm : Int32} {ce rc tk co ln ki : Nat → Int32} {nm : Nat → Int64} {nu pr : Nat → Int32} {fa : Nat → Int64} {i : Nat} {v : Int32} (hi : i < 20) (K : ∀ a b, mq_rx a b (mq_lf v) → post (gc, pc, tm, ce, rc, tk, co, ln, ki, vp_updL nm i b, upd nu i a, pr, fa)) : wpX_holdCell post (gc, pc, tm, ce, rc, tk, co, ln, ki, nm, nu, pr, fa) (nI i) v := by
  have i1 : vp_in (nI i) 20 := vp_in_nI hi (by decide)
  have c1 : (nI i).toNatClampNeg = i := nI_clamp (by omega)
  by_cases hv : v = -2147483648
  · refine br_t hv ⟨i1, ?_⟩
    rw [c1, mn_b1]
    refine nm_e ⟨i1, nm_e (K _ _ ?_)⟩
    unfold mq_lf
    rw [if_pos hv]
    exact rfl
  · refine br_f hv ⟨i1, ?_⟩
    rw [c1, mn_b0]
    refine nm_e ⟨i1, nm_e (K _ _ ?_)⟩
    unfold mq_lf
    rw [if_neg hv]
    exact ⟨rfl, rfl⟩
theorem mx_h30 {post : SX → Prop} {gc pc tm : Int32} {ce rc tk co ln ki : Nat → Int32} {nm : Nat → Int64} {nu pr : Nat → Int32} {fa : Nat → Int64} {p : Nat} (hp : p + 1 < 20) {a b c : Option Int64} (ha : mq_rx (nu p) (nm p) a) (hb : mq_rx (nu (p + 1)) (nm (p + 1)) b)
    (K : ∀ x y, mq_rx x y (mq_op 30 a b c) → post (gc, pc, tm, ce, rc, tk, co, ln, ki, vp_updL nm (p + 1) y, upd nu (p + 1) x, pr, fa)) : wpX_holdJunction post (gc, pc, tm, ce, rc, tk, co, ln, ki, nm, nu, pr, fa) 30 (nI p) (nI (p + 1)) := by
  have i1 : vp_in (nI p) 20 := vp_in_nI (by omega) (by decide)
  have c1 : (nI p).toNatClampNeg = p := nI_clamp (by omega)
  have i2 : vp_in (nI (p + 1)) 20 := vp_in_nI (by omega) (by decide)
  have c2 : (nI (p + 1)).toNatClampNeg = p + 1 := nI_clamp (by omega)
  by_cases hx : nm p = 0
  · by_cases hy : nm (p + 1) = 0
    · cases a with
      | none =>
        have ha1 : nu p = 1 := ha
        cases b with
        | none =>
          have hb1 : nu (p + 1) = 1 := hb
          simp [wpX_holdJunction, wX_holdJunction_11, wX_holdJunction_38, wX_holdJunction_39, wX_holdJunction_70, wX_holdJunction_71, wX_holdJunction_83, wX_holdJunction_88, wX_holdJunction_120, wX_holdJunction_124, wX_holdJunction_125, nI_1, i1, i2, c1, c2, mn_b0, mn_b1, ha1, hb1, hx, hy]
          exact K _ _ (by simp [mq_rx, mq_op, mq_b2, hx, hy])
        | some y =>
          obtain ⟨hb1, rfl⟩ := hb
          simp [wpX_holdJunction, wX_holdJunction_11, wX_holdJunction_38, wX_holdJunction_39, wX_holdJunction_70, wX_holdJunction_71, wX_holdJunction_83, wX_holdJunction_88, wX_holdJunction_120, wX_holdJunction_124, wX_holdJunction_125, nI_1, i1, i2, c1, c2, mn_b0, mn_b1, ha1, hb1, hx, hy]
          exact K _ _ (by simp [mq_rx, mq_op, mq_b2, hx, hy])
      | some x =>
        obtain ⟨ha1, rfl⟩ := ha
        cases b with
        | none =>
          have hb1 : nu (p + 1) = 1 := hb
          simp [wpX_holdJunction, wX_holdJunction_11, wX_holdJunction_38, wX_holdJunction_39, wX_holdJunction_70, wX_holdJunction_71, wX_holdJunction_83, wX_holdJunction_88, wX_holdJunction_120, wX_holdJunction_124, wX_holdJunction_125, nI_1, i1, i2, c1, c2, mn_b0, mn_b1, ha1, hb1, hx, hy]
          exact K _ _ (by simp [mq_rx, mq_op, mq_b2, hx, hy])
        | some y =>
          obtain ⟨hb1, rfl⟩ := hb
          simp [wpX_holdJunction, wX_holdJunction_11, wX_holdJunction_38, wX_holdJunction_39, wX_holdJunction_70, wX_holdJunction_71, wX_holdJunction_83, wX_holdJunction_88, wX_holdJunction_120, wX_holdJunction_124, wX_holdJunction_125, nI_1, i1, i2, c1, c2, mn_b0, mn_b1, ha1, hb1, hx, hy]
          exact K _ _ (by simp [mq_rx, mq_op, mq_b2, hx, hy])
    · cases a with
      | none =>
        have ha1 : nu p = 1 := ha
        cases b with
        | none =>
          have hb1 : nu (p + 1) = 1 := hb
          simp [wpX_holdJunction, wX_holdJunction_11, wX_holdJunction_38, wX_holdJunction_39, wX_holdJunction_70, wX_holdJunction_71, wX_holdJunction_83, wX_holdJunction_88, wX_holdJunction_120, wX_holdJunction_124, wX_holdJunction_125, nI_1, i1, i2, c1, c2, mn_b0, mn_b1, ha1, hb1, hx, hy]
          exact K _ _ (by simp [mq_rx, mq_op, mq_b2, hx, hy])
        | some y =>
          obtain ⟨hb1, rfl⟩ := hb
          simp [wpX_holdJunction, wX_holdJunction_11, wX_holdJunction_38, wX_holdJunction_39, wX_holdJunction_70, wX_holdJunction_71, wX_holdJunction_83, wX_holdJunction_88, wX_holdJunction_120, wX_holdJunction_124, wX_holdJunction_125, nI_1, i1, i2, c1, c2, mn_b0, mn_b1, ha1, hb1, hx, hy]
          exact K _ _ (by simp [mq_rx, mq_op, mq_b2, hx, hy])
      | some x =>
        obtain ⟨ha1, rfl⟩ := ha
        cases b with
        | none =>
          have hb1 : nu (p + 1) = 1 := hb
          simp [wpX_holdJunction, wX_holdJunction_11, wX_holdJunction_38, wX_holdJunction_39, wX_holdJunction_70, wX_holdJunction_71, wX_holdJunction_83, wX_holdJunction_88, wX_holdJunction_120, wX_holdJunction_124, wX_holdJunction_125, nI_1, i1, i2, c1, c2, mn_b0, mn_b1, ha1, hb1, hx, hy]
          exact K _ _ (by simp [mq_rx, mq_op, mq_b2, hx, hy])
        | some y =>
          obtain ⟨hb1, rfl⟩ := hb
          simp [wpX_holdJunction, wX_holdJunction_11, wX_holdJunction_38, wX_holdJunction_39, wX_holdJunction_70, wX_holdJunction_71, wX_holdJunction_83, wX_holdJunction_88, wX_holdJunction_120, wX_holdJunction_124, wX_holdJunction_125, nI_1, i1, i2, c1, c2, mn_b0, mn_b1, ha1, hb1, hx, hy]
          exact K _ _ (by simp [mq_rx, mq_op, mq_b2, hx, hy])
  · by_cases hy : nm (p + 1) = 0
    · cases a with
      | none =>
        have ha1 : nu p = 1 := ha
        cases b with
        | none =>
          have hb1 : nu (p + 1) = 1 := hb
          simp [wpX_holdJunction, wX_holdJunction_11, wX_holdJunction_38, wX_holdJunction_39, wX_holdJunction_70, wX_holdJunction_71, wX_holdJunction_83, wX_holdJunction_88, wX_holdJunction_120, wX_holdJunction_124, wX_holdJunction_125, nI_1, i1, i2, c1, c2, mn_b0, mn_b1, ha1, hb1, hx, hy]
          exact K _ _ (by simp [mq_rx, mq_op, mq_b2, hx, hy])
        | some y =>
          obtain ⟨hb1, rfl⟩ := hb
          simp [wpX_holdJunction, wX_holdJunction_11, wX_holdJunction_38, wX_holdJunction_39, wX_holdJunction_70, wX_holdJunction_71, wX_holdJunction_83, wX_holdJunction_88, wX_holdJunction_120, wX_holdJunction_124, wX_holdJunction_125, nI_1, i1, i2, c1, c2, mn_b0, mn_b1, ha1, hb1, hx, hy]
          exact K _ _ (by simp [mq_rx, mq_op, mq_b2, hx, hy])
      | some x =>
        obtain ⟨ha1, rfl⟩ := ha
        cases b with
        | none =>
          have hb1 : nu (p + 1) = 1 := hb
          simp [wpX_holdJunction, wX_holdJunction_11, wX_holdJunction_38, wX_holdJunction_39, wX_holdJunction_70, wX_holdJunction_71, wX_holdJunction_83, wX_holdJunction_88, wX_holdJunction_120, wX_holdJunction_124, wX_holdJunction_125, nI_1, i1, i2, c1, c2, mn_b0, mn_b1, ha1, hb1, hx, hy]
          exact K _ _ (by simp [mq_rx, mq_op, mq_b2, hx, hy])
        | some y =>
          obtain ⟨hb1, rfl⟩ := hb
          simp [wpX_holdJunction, wX_holdJunction_11, wX_holdJunction_38, wX_holdJunction_39, wX_holdJunction_70, wX_holdJunction_71, wX_holdJunction_83, wX_holdJunction_88, wX_holdJunction_120, wX_holdJunction_124, wX_holdJunction_125, nI_1, i1, i2, c1, c2, mn_b0, mn_b1, ha1, hb1, hx, hy]
          exact K _ _ (by simp [mq_rx, mq_op, mq_b2, hx, hy])
    · cases a with
      | none =>
        have ha1 : nu p = 1 := ha
        cases b with
        | none =>
          have hb1 : nu (p + 1) = 1 := hb
          simp [wpX_holdJunction, wX_holdJunction_11, wX_holdJunction_38, wX_holdJunction_39, wX_holdJunction_70, wX_holdJunction_71, wX_holdJunction_83, wX_holdJunction_88, wX_holdJunction_120, wX_holdJunction_124, wX_holdJunction_125, nI_1, i1, i2, c1, c2, mn_b0, mn_b1, ha1, hb1, hx, hy]
          exact K _ _ (by simp [mq_rx, mq_op, mq_b2, hx, hy])
        | some y =>
          obtain ⟨hb1, rfl⟩ := hb
          simp [wpX_holdJunction, wX_holdJunction_11, wX_holdJunction_38, wX_holdJunction_39, wX_holdJunction_70, wX_holdJunction_71, wX_holdJunction_83, wX_holdJunction_88, wX_holdJunction_120, wX_holdJunction_124, wX_holdJunction_125, nI_1, i1, i2, c1, c2, mn_b0, mn_b1, ha1, hb1, hx, hy]
          exact K _ _ (by simp [mq_rx, mq_op, mq_b2, hx, hy])
      | some x =>
        obtain ⟨ha1, rfl⟩ := ha
        cases b with
        | none =>
          have hb1 : nu (p + 1) = 1 := hb
          simp [wpX_holdJunction, wX_holdJunction_11, wX_holdJunction_38, wX_holdJunction_39, wX_holdJunction_70, wX_holdJunction_71, wX_holdJunction_83, wX_holdJunction_88, wX_holdJunction_120, wX_holdJunction_124, wX_holdJunction_125, nI_1, i1, i2, c1, c2, mn_b0, mn_b1, ha1, hb1, hx, hy]
          exact K _ _ (by simp [mq_rx, mq_op, mq_b2, hx, hy])
        | some y =>
          obtain ⟨hb1, rfl⟩ := hb
          simp [wpX_holdJunction, wX_holdJunction_11, wX_holdJunction_38, wX_holdJunction_39, wX_holdJunction_70, wX_holdJunction_71, wX_holdJunction_83, wX_holdJunction_88, wX_holdJunction_120, wX_holdJunction_124, wX_holdJunction_125, nI_1, i1, i2, c1, c2, mn_b0, mn_b1, ha1, hb1, hx, hy]
          exact K _ _ (by simp [mq_rx, mq_op, mq_b2, hx, hy])
theorem mx_h31 {post : SX → Prop} {gc pc tm : Int32} {ce rc tk co ln ki : Nat → Int32} {nm : Nat → Int64} {nu pr : Nat → Int32} {fa : Nat → Int64} {p : Nat} (hp : p + 1 < 20) {a b c : Option Int64} (ha : mq_rx (nu p) (nm p) a) (hb : mq_rx (nu (p + 1)) (nm (p + 1)) b)
    (K : ∀ x y, mq_rx x y (mq_op 31 a b c) → post (gc, pc, tm, ce, rc, tk, co, ln, ki, vp_updL nm (p + 1) y, upd nu (p + 1) x, pr, fa)) : wpX_holdJunction post (gc, pc, tm, ce, rc, tk, co, ln, ki, nm, nu, pr, fa) 31 (nI p) (nI (p + 1)) := by
  have i1 : vp_in (nI p) 20 := vp_in_nI (by omega) (by decide)
  have c1 : (nI p).toNatClampNeg = p := nI_clamp (by omega)
  have i2 : vp_in (nI (p + 1)) 20 := vp_in_nI (by omega) (by decide)
  have c2 : (nI (p + 1)).toNatClampNeg = p + 1 := nI_clamp (by omega)
  by_cases hx : nm p = 1
  · by_cases hy : nm (p + 1) = 1
    · cases a with
      | none =>
        have ha1 : nu p = 1 := ha
        cases b with
        | none =>
          have hb1 : nu (p + 1) = 1 := hb
          simp [wpX_holdJunction, wX_holdJunction_11, wX_holdJunction_38, wX_holdJunction_39, wX_holdJunction_70, wX_holdJunction_71, wX_holdJunction_83, wX_holdJunction_88, wX_holdJunction_120, wX_holdJunction_124, wX_holdJunction_125, nI_1, i1, i2, c1, c2, mn_b0, mn_b1, ha1, hb1, hx, hy]
          exact K _ _ (by simp [mq_rx, mq_op, mq_b2, hx, hy])
        | some y =>
          obtain ⟨hb1, rfl⟩ := hb
          simp [wpX_holdJunction, wX_holdJunction_11, wX_holdJunction_38, wX_holdJunction_39, wX_holdJunction_70, wX_holdJunction_71, wX_holdJunction_83, wX_holdJunction_88, wX_holdJunction_120, wX_holdJunction_124, wX_holdJunction_125, nI_1, i1, i2, c1, c2, mn_b0, mn_b1, ha1, hb1, hx, hy]
          exact K _ _ (by simp [mq_rx, mq_op, mq_b2, hx, hy])
      | some x =>
        obtain ⟨ha1, rfl⟩ := ha
        cases b with
        | none =>
          have hb1 : nu (p + 1) = 1 := hb
          simp [wpX_holdJunction, wX_holdJunction_11, wX_holdJunction_38, wX_holdJunction_39, wX_holdJunction_70, wX_holdJunction_71, wX_holdJunction_83, wX_holdJunction_88, wX_holdJunction_120, wX_holdJunction_124, wX_holdJunction_125, nI_1, i1, i2, c1, c2, mn_b0, mn_b1, ha1, hb1, hx, hy]
          exact K _ _ (by simp [mq_rx, mq_op, mq_b2, hx, hy])
        | some y =>
          obtain ⟨hb1, rfl⟩ := hb
          simp [wpX_holdJunction, wX_holdJunction_11, wX_holdJunction_38, wX_holdJunction_39, wX_holdJunction_70, wX_holdJunction_71, wX_holdJunction_83, wX_holdJunction_88, wX_holdJunction_120, wX_holdJunction_124, wX_holdJunction_125, nI_1, i1, i2, c1, c2, mn_b0, mn_b1, ha1, hb1, hx, hy]
          exact K _ _ (by simp [mq_rx, mq_op, mq_b2, hx, hy])
    · cases a with
      | none =>
        have ha1 : nu p = 1 := ha
        cases b with
        | none =>
          have hb1 : nu (p + 1) = 1 := hb
          simp [wpX_holdJunction, wX_holdJunction_11, wX_holdJunction_38, wX_holdJunction_39, wX_holdJunction_70, wX_holdJunction_71, wX_holdJunction_83, wX_holdJunction_88, wX_holdJunction_120, wX_holdJunction_124, wX_holdJunction_125, nI_1, i1, i2, c1, c2, mn_b0, mn_b1, ha1, hb1, hx, hy]
          exact K _ _ (by simp [mq_rx, mq_op, mq_b2, hx, hy])
        | some y =>
          obtain ⟨hb1, rfl⟩ := hb
          simp [wpX_holdJunction, wX_holdJunction_11, wX_holdJunction_38, wX_holdJunction_39, wX_holdJunction_70, wX_holdJunction_71, wX_holdJunction_83, wX_holdJunction_88, wX_holdJunction_120, wX_holdJunction_124, wX_holdJunction_125, nI_1, i1, i2, c1, c2, mn_b0, mn_b1, ha1, hb1, hx, hy]
          exact K _ _ (by simp [mq_rx, mq_op, mq_b2, hx, hy])
      | some x =>
        obtain ⟨ha1, rfl⟩ := ha
        cases b with
        | none =>
          have hb1 : nu (p + 1) = 1 := hb
          simp [wpX_holdJunction, wX_holdJunction_11, wX_holdJunction_38, wX_holdJunction_39, wX_holdJunction_70, wX_holdJunction_71, wX_holdJunction_83, wX_holdJunction_88, wX_holdJunction_120, wX_holdJunction_124, wX_holdJunction_125, nI_1, i1, i2, c1, c2, mn_b0, mn_b1, ha1, hb1, hx, hy]
          exact K _ _ (by simp [mq_rx, mq_op, mq_b2, hx, hy])
        | some y =>
          obtain ⟨hb1, rfl⟩ := hb
          simp [wpX_holdJunction, wX_holdJunction_11, wX_holdJunction_38, wX_holdJunction_39, wX_holdJunction_70, wX_holdJunction_71, wX_holdJunction_83, wX_holdJunction_88, wX_holdJunction_120, wX_holdJunction_124, wX_holdJunction_125, nI_1, i1, i2, c1, c2, mn_b0, mn_b1, ha1, hb1, hx, hy]
          exact K _ _ (by simp [mq_rx, mq_op, mq_b2, hx, hy])
  · by_cases hy : nm (p + 1) = 1
    · cases a with
      | none =>
        have ha1 : nu p = 1 := ha
        cases b with
        | none =>
          have hb1 : nu (p + 1) = 1 := hb
          simp [wpX_holdJunction, wX_holdJunction_11, wX_holdJunction_38, wX_holdJunction_39, wX_holdJunction_70, wX_holdJunction_71, wX_holdJunction_83, wX_holdJunction_88, wX_holdJunction_120, wX_holdJunction_124, wX_holdJunction_125, nI_1, i1, i2, c1, c2, mn_b0, mn_b1, ha1, hb1, hx, hy]
          exact K _ _ (by simp [mq_rx, mq_op, mq_b2, hx, hy])
        | some y =>
          obtain ⟨hb1, rfl⟩ := hb
          simp [wpX_holdJunction, wX_holdJunction_11, wX_holdJunction_38, wX_holdJunction_39, wX_holdJunction_70, wX_holdJunction_71, wX_holdJunction_83, wX_holdJunction_88, wX_holdJunction_120, wX_holdJunction_124, wX_holdJunction_125, nI_1, i1, i2, c1, c2, mn_b0, mn_b1, ha1, hb1, hx, hy]
          exact K _ _ (by simp [mq_rx, mq_op, mq_b2, hx, hy])
      | some x =>
        obtain ⟨ha1, rfl⟩ := ha
        cases b with
        | none =>
          have hb1 : nu (p + 1) = 1 := hb
          simp [wpX_holdJunction, wX_holdJunction_11, wX_holdJunction_38, wX_holdJunction_39, wX_holdJunction_70, wX_holdJunction_71, wX_holdJunction_83, wX_holdJunction_88, wX_holdJunction_120, wX_holdJunction_124, wX_holdJunction_125, nI_1, i1, i2, c1, c2, mn_b0, mn_b1, ha1, hb1, hx, hy]
          exact K _ _ (by simp [mq_rx, mq_op, mq_b2, hx, hy])
        | some y =>
          obtain ⟨hb1, rfl⟩ := hb
          simp [wpX_holdJunction, wX_holdJunction_11, wX_holdJunction_38, wX_holdJunction_39, wX_holdJunction_70, wX_holdJunction_71, wX_holdJunction_83, wX_holdJunction_88, wX_holdJunction_120, wX_holdJunction_124, wX_holdJunction_125, nI_1, i1, i2, c1, c2, mn_b0, mn_b1, ha1, hb1, hx, hy]
          exact K _ _ (by simp [mq_rx, mq_op, mq_b2, hx, hy])
    · cases a with
      | none =>
        have ha1 : nu p = 1 := ha
        cases b with
        | none =>
          have hb1 : nu (p + 1) = 1 := hb
          simp [wpX_holdJunction, wX_holdJunction_11, wX_holdJunction_38, wX_holdJunction_39, wX_holdJunction_70, wX_holdJunction_71, wX_holdJunction_83, wX_holdJunction_88, wX_holdJunction_120, wX_holdJunction_124, wX_holdJunction_125, nI_1, i1, i2, c1, c2, mn_b0, mn_b1, ha1, hb1, hx, hy]
          exact K _ _ (by simp [mq_rx, mq_op, mq_b2, hx, hy])
        | some y =>
          obtain ⟨hb1, rfl⟩ := hb
          simp [wpX_holdJunction, wX_holdJunction_11, wX_holdJunction_38, wX_holdJunction_39, wX_holdJunction_70, wX_holdJunction_71, wX_holdJunction_83, wX_holdJunction_88, wX_holdJunction_120, wX_holdJunction_124, wX_holdJunction_125, nI_1, i1, i2, c1, c2, mn_b0, mn_b1, ha1, hb1, hx, hy]
          exact K _ _ (by simp [mq_rx, mq_op, mq_b2, hx, hy])
      | some x =>
        obtain ⟨ha1, rfl⟩ := ha
        cases b with
        | none =>
          have hb1 : nu (p + 1) = 1 := hb
          simp [wpX_holdJunction, wX_holdJunction_11, wX_holdJunction_38, wX_holdJunction_39, wX_holdJunction_70, wX_holdJunction_71, wX_holdJunction_83, wX_holdJunction_88, wX_holdJunction_120, wX_holdJunction_124, wX_holdJunction_125, nI_1, i1, i2, c1, c2, mn_b0, mn_b1, ha1, hb1, hx, hy]
          exact K _ _ (by simp [mq_rx, mq_op, mq_b2, hx, hy])
        | some y =>
          obtain ⟨hb1, rfl⟩ := hb
          simp [wpX_holdJunction, wX_holdJunction_11, wX_holdJunction_38, wX_holdJunction_39, wX_holdJunction_70, wX_holdJunction_71, wX_holdJunction_83, wX_holdJunction_88, wX_holdJunction_120, wX_holdJunction_124, wX_holdJunction_125, nI_1, i1, i2, c1, c2, mn_b0, mn_b1, ha1, hb1, hx, hy]
          exact K _ _ (by simp [mq_rx, mq_op, mq_b2, hx, hy])
theorem mx_h10 {post : SX → Prop} {gc pc tm : Int32} {ce rc tk co ln ki : Nat → Int32} {nm : Nat → Int64} {nu pr : Nat → Int32} {fa : Nat → Int64} {p : Nat} (hp : p + 1 < 20) {a b c : Option Int64} (ha : mq_rx (nu p) (nm p) a) (hb : mq_rx (nu (p + 1)) (nm (p + 1)) b)
    (K : ∀ x y, mq_rx x y (mq_op 10 a b c) → post (gc, pc, tm, ce, rc, tk, co, ln, ki, vp_updL nm (p + 1) y, upd nu (p + 1) x, pr, fa)) : wpX_holdUnlessNull post (gc, pc, tm, ce, rc, tk, co, ln, ki, nm, nu, pr, fa) 10 (nI p) (nI (p + 1)) := by
  have i1 : vp_in (nI p) 20 := vp_in_nI (by omega) (by decide)
  have c1 : (nI p).toNatClampNeg = p := nI_clamp (by omega)
  have i2 : vp_in (nI (p + 1)) 20 := vp_in_nI (by omega) (by decide)
  have c2 : (nI (p + 1)).toNatClampNeg = p + 1 := nI_clamp (by omega)
  cases a with
  | none =>
    have ha1 : nu p = 1 := ha
    cases b with
    | none =>
      have hb1 : nu (p + 1) = 1 := hb
      simp [wpX_holdUnlessNull, wX_holdUnlessNull_28, wX_holdUnlessNull_33, wX_holdUnlessNull_70, wX_holdUnlessNull_74, wX_holdUnlessNull_75, wpX_numberOf, wpX_truthOf, wX_truthOf_79, wX_truthOf_95, wX_truthOf_111, wX_truthOf_127, wX_truthOf_132, wX_truthOf_143, wX_truthOf_145, nI_1, i1, i2, c1, c2, mn_b0, mn_b1, ha1, hb1]
      exact K _ _ (by simp [mq_rx, mq_op, mq_b2])
    | some y =>
      obtain ⟨hb1, rfl⟩ := hb
      simp [wpX_holdUnlessNull, wX_holdUnlessNull_28, wX_holdUnlessNull_33, wX_holdUnlessNull_70, wX_holdUnlessNull_74, wX_holdUnlessNull_75, wpX_numberOf, wpX_truthOf, wX_truthOf_79, wX_truthOf_95, wX_truthOf_111, wX_truthOf_127, wX_truthOf_132, wX_truthOf_143, wX_truthOf_145, nI_1, i1, i2, c1, c2, mn_b0, mn_b1, ha1, hb1]
      exact K _ _ (by simp [mq_rx, mq_op, mq_b2])
  | some x =>
    obtain ⟨ha1, rfl⟩ := ha
    cases b with
    | none =>
      have hb1 : nu (p + 1) = 1 := hb
      simp [wpX_holdUnlessNull, wX_holdUnlessNull_28, wX_holdUnlessNull_33, wX_holdUnlessNull_70, wX_holdUnlessNull_74, wX_holdUnlessNull_75, wpX_numberOf, wpX_truthOf, wX_truthOf_79, wX_truthOf_95, wX_truthOf_111, wX_truthOf_127, wX_truthOf_132, wX_truthOf_143, wX_truthOf_145, nI_1, i1, i2, c1, c2, mn_b0, mn_b1, ha1, hb1]
      exact K _ _ (by simp [mq_rx, mq_op, mq_b2])
    | some y =>
      obtain ⟨hb1, rfl⟩ := hb
      simp [wpX_holdUnlessNull, wX_holdUnlessNull_28, wX_holdUnlessNull_33, wX_holdUnlessNull_70, wX_holdUnlessNull_74, wX_holdUnlessNull_75, wpX_numberOf, wpX_truthOf, wX_truthOf_79, wX_truthOf_95, wX_truthOf_111, wX_truthOf_127, wX_truthOf_132, wX_truthOf_143, wX_truthOf_145, nI_1, i1, i2, c1, c2, mn_b0, mn_b1, ha1, hb1]
      exact K _ _ (by simp [mq_rx, mq_op, mq_b2])
theorem mx_h11 {post : SX → Prop} {gc pc tm : Int32} {ce rc tk co ln ki : Nat → Int32} {nm : Nat → Int64} {nu pr : Nat → Int32} {fa : Nat → Int64} {p : Nat} (hp : p + 1 < 20) {a b c : Option Int64} (ha : mq_rx (nu p) (nm p) a) (hb : mq_rx (nu (p + 1)) (nm (p + 1)) b)
    (K : ∀ x y, mq_rx x y (mq_op 11 a b c) → post (gc, pc, tm, ce, rc, tk, co, ln, ki, vp_updL nm (p + 1) y, upd nu (p + 1) x, pr, fa)) : wpX_holdUnlessNull post (gc, pc, tm, ce, rc, tk, co, ln, ki, nm, nu, pr, fa) 11 (nI p) (nI (p + 1)) := by
  have i1 : vp_in (nI p) 20 := vp_in_nI (by omega) (by decide)
  have c1 : (nI p).toNatClampNeg = p := nI_clamp (by omega)
  have i2 : vp_in (nI (p + 1)) 20 := vp_in_nI (by omega) (by decide)
  have c2 : (nI (p + 1)).toNatClampNeg = p + 1 := nI_clamp (by omega)
  cases a with
  | none =>
    have ha1 : nu p = 1 := ha
    cases b with
    | none =>
      have hb1 : nu (p + 1) = 1 := hb
      simp [wpX_holdUnlessNull, wX_holdUnlessNull_28, wX_holdUnlessNull_33, wX_holdUnlessNull_70, wX_holdUnlessNull_74, wX_holdUnlessNull_75, wpX_numberOf, wpX_truthOf, wX_truthOf_79, wX_truthOf_95, wX_truthOf_111, wX_truthOf_127, wX_truthOf_132, wX_truthOf_143, wX_truthOf_145, nI_1, i1, i2, c1, c2, mn_b0, mn_b1, ha1, hb1]
      exact K _ _ (by simp [mq_rx, mq_op, mq_b2])
    | some y =>
      obtain ⟨hb1, rfl⟩ := hb
      simp [wpX_holdUnlessNull, wX_holdUnlessNull_28, wX_holdUnlessNull_33, wX_holdUnlessNull_70, wX_holdUnlessNull_74, wX_holdUnlessNull_75, wpX_numberOf, wpX_truthOf, wX_truthOf_79, wX_truthOf_95, wX_truthOf_111, wX_truthOf_127, wX_truthOf_132, wX_truthOf_143, wX_truthOf_145, nI_1, i1, i2, c1, c2, mn_b0, mn_b1, ha1, hb1]
      exact K _ _ (by simp [mq_rx, mq_op, mq_b2])
  | some x =>
    obtain ⟨ha1, rfl⟩ := ha
    cases b with
    | none =>
      have hb1 : nu (p + 1) = 1 := hb
      simp [wpX_holdUnlessNull, wX_holdUnlessNull_28, wX_holdUnlessNull_33, wX_holdUnlessNull_70, wX_holdUnlessNull_74, wX_holdUnlessNull_75, wpX_numberOf, wpX_truthOf, wX_truthOf_79, wX_truthOf_95, wX_truthOf_111, wX_truthOf_127, wX_truthOf_132, wX_truthOf_143, wX_truthOf_145, nI_1, i1, i2, c1, c2, mn_b0, mn_b1, ha1, hb1]
      exact K _ _ (by simp [mq_rx, mq_op, mq_b2])
    | some y =>
      obtain ⟨hb1, rfl⟩ := hb
      simp [wpX_holdUnlessNull, wX_holdUnlessNull_28, wX_holdUnlessNull_33, wX_holdUnlessNull_70, wX_holdUnlessNull_74, wX_holdUnlessNull_75, wpX_numberOf, wpX_truthOf, wX_truthOf_79, wX_truthOf_95, wX_truthOf_111, wX_truthOf_127, wX_truthOf_132, wX_truthOf_143, wX_truthOf_145, nI_1, i1, i2, c1, c2, mn_b0, mn_b1, ha1, hb1]
      exact K _ _ (by simp [mq_rx, mq_op, mq_b2])
theorem mx_h12 {post : SX → Prop} {gc pc tm : Int32} {ce rc tk co ln ki : Nat → Int32} {nm : Nat → Int64} {nu pr : Nat → Int32} {fa : Nat → Int64} {p : Nat} (hp : p + 1 < 20) {a b c : Option Int64} (ha : mq_rx (nu p) (nm p) a) (hb : mq_rx (nu (p + 1)) (nm (p + 1)) b)
    (K : ∀ x y, mq_rx x y (mq_op 12 a b c) → post (gc, pc, tm, ce, rc, tk, co, ln, ki, vp_updL nm (p + 1) y, upd nu (p + 1) x, pr, fa)) : wpX_holdUnlessNull post (gc, pc, tm, ce, rc, tk, co, ln, ki, nm, nu, pr, fa) 12 (nI p) (nI (p + 1)) := by
  have i1 : vp_in (nI p) 20 := vp_in_nI (by omega) (by decide)
  have c1 : (nI p).toNatClampNeg = p := nI_clamp (by omega)
  have i2 : vp_in (nI (p + 1)) 20 := vp_in_nI (by omega) (by decide)
  have c2 : (nI (p + 1)).toNatClampNeg = p + 1 := nI_clamp (by omega)
  cases a with
  | none =>
    have ha1 : nu p = 1 := ha
    cases b with
    | none =>
      have hb1 : nu (p + 1) = 1 := hb
      simp [wpX_holdUnlessNull, wX_holdUnlessNull_28, wX_holdUnlessNull_33, wX_holdUnlessNull_70, wX_holdUnlessNull_74, wX_holdUnlessNull_75, wpX_numberOf, wpX_truthOf, wX_truthOf_79, wX_truthOf_95, wX_truthOf_111, wX_truthOf_127, wX_truthOf_132, wX_truthOf_143, wX_truthOf_145, nI_1, i1, i2, c1, c2, mn_b0, mn_b1, ha1, hb1]
      exact K _ _ (by simp [mq_rx, mq_op, mq_b2])
    | some y =>
      obtain ⟨hb1, rfl⟩ := hb
      simp [wpX_holdUnlessNull, wX_holdUnlessNull_28, wX_holdUnlessNull_33, wX_holdUnlessNull_70, wX_holdUnlessNull_74, wX_holdUnlessNull_75, wpX_numberOf, wpX_truthOf, wX_truthOf_79, wX_truthOf_95, wX_truthOf_111, wX_truthOf_127, wX_truthOf_132, wX_truthOf_143, wX_truthOf_145, nI_1, i1, i2, c1, c2, mn_b0, mn_b1, ha1, hb1]
      exact K _ _ (by simp [mq_rx, mq_op, mq_b2])
  | some x =>
    obtain ⟨ha1, rfl⟩ := ha
    cases b with
    | none =>
      have hb1 : nu (p + 1) = 1 := hb
      simp [wpX_holdUnlessNull, wX_holdUnlessNull_28, wX_holdUnlessNull_33, wX_holdUnlessNull_70, wX_holdUnlessNull_74, wX_holdUnlessNull_75, wpX_numberOf, wpX_truthOf, wX_truthOf_79, wX_truthOf_95, wX_truthOf_111, wX_truthOf_127, wX_truthOf_132, wX_truthOf_143, wX_truthOf_145, nI_1, i1, i2, c1, c2, mn_b0, mn_b1, ha1, hb1]
      exact K _ _ (by simp [mq_rx, mq_op, mq_b2])
    | some y =>
      obtain ⟨hb1, rfl⟩ := hb
      simp [wpX_holdUnlessNull, wX_holdUnlessNull_28, wX_holdUnlessNull_33, wX_holdUnlessNull_70, wX_holdUnlessNull_74, wX_holdUnlessNull_75, wpX_numberOf, wpX_truthOf, wX_truthOf_79, wX_truthOf_95, wX_truthOf_111, wX_truthOf_127, wX_truthOf_132, wX_truthOf_143, wX_truthOf_145, nI_1, i1, i2, c1, c2, mn_b0, mn_b1, ha1, hb1]
      exact K _ _ (by simp [mq_rx, mq_op, mq_b2])
theorem mx_h13 {post : SX → Prop} {gc pc tm : Int32} {ce rc tk co ln ki : Nat → Int32} {nm : Nat → Int64} {nu pr : Nat → Int32} {fa : Nat → Int64} {p : Nat} (hp : p + 1 < 20) {a b c : Option Int64} (ha : mq_rx (nu p) (nm p) a) (hb : mq_rx (nu (p + 1)) (nm (p + 1)) b)
    (K : ∀ x y, mq_rx x y (mq_op 13 a b c) → post (gc, pc, tm, ce, rc, tk, co, ln, ki, vp_updL nm (p + 1) y, upd nu (p + 1) x, pr, fa)) : wpX_holdUnlessNull post (gc, pc, tm, ce, rc, tk, co, ln, ki, nm, nu, pr, fa) 13 (nI p) (nI (p + 1)) := by
  have i1 : vp_in (nI p) 20 := vp_in_nI (by omega) (by decide)
  have c1 : (nI p).toNatClampNeg = p := nI_clamp (by omega)
  have i2 : vp_in (nI (p + 1)) 20 := vp_in_nI (by omega) (by decide)
  have c2 : (nI (p + 1)).toNatClampNeg = p + 1 := nI_clamp (by omega)
  by_cases hz : nm (p + 1) = 0
  · cases a with
    | none =>
      have ha1 : nu p = 1 := ha
      cases b with
      | none =>
        have hb1 : nu (p + 1) = 1 := hb
        simp [wpX_holdUnlessNull, wX_holdUnlessNull_28, wX_holdUnlessNull_33, wX_holdUnlessNull_70, wX_holdUnlessNull_74, wX_holdUnlessNull_75, wpX_numberOf, wpX_truthOf, wX_truthOf_79, wX_truthOf_95, wX_truthOf_111, wX_truthOf_127, wX_truthOf_132, wX_truthOf_143, wX_truthOf_145, nI_1, i1, i2, c1, c2, mn_b0, mn_b1, ha1, hb1, hz]
        exact K _ _ (by simp [mq_rx, mq_op, mq_b2, hz])
      | some y =>
        obtain ⟨hb1, rfl⟩ := hb
        simp [wpX_holdUnlessNull, wX_holdUnlessNull_28, wX_holdUnlessNull_33, wX_holdUnlessNull_70, wX_holdUnlessNull_74, wX_holdUnlessNull_75, wpX_numberOf, wpX_truthOf, wX_truthOf_79, wX_truthOf_95, wX_truthOf_111, wX_truthOf_127, wX_truthOf_132, wX_truthOf_143, wX_truthOf_145, nI_1, i1, i2, c1, c2, mn_b0, mn_b1, ha1, hb1, hz]
        exact K _ _ (by simp [mq_rx, mq_op, mq_b2, hz])
    | some x =>
      obtain ⟨ha1, rfl⟩ := ha
      cases b with
      | none =>
        have hb1 : nu (p + 1) = 1 := hb
        simp [wpX_holdUnlessNull, wX_holdUnlessNull_28, wX_holdUnlessNull_33, wX_holdUnlessNull_70, wX_holdUnlessNull_74, wX_holdUnlessNull_75, wpX_numberOf, wpX_truthOf, wX_truthOf_79, wX_truthOf_95, wX_truthOf_111, wX_truthOf_127, wX_truthOf_132, wX_truthOf_143, wX_truthOf_145, nI_1, i1, i2, c1, c2, mn_b0, mn_b1, ha1, hb1, hz]
        exact K _ _ (by simp [mq_rx, mq_op, mq_b2, hz])
      | some y =>
        obtain ⟨hb1, rfl⟩ := hb
        simp [wpX_holdUnlessNull, wX_holdUnlessNull_28, wX_holdUnlessNull_33, wX_holdUnlessNull_70, wX_holdUnlessNull_74, wX_holdUnlessNull_75, wpX_numberOf, wpX_truthOf, wX_truthOf_79, wX_truthOf_95, wX_truthOf_111, wX_truthOf_127, wX_truthOf_132, wX_truthOf_143, wX_truthOf_145, nI_1, i1, i2, c1, c2, mn_b0, mn_b1, ha1, hb1, hz]
        exact K _ _ (by simp [mq_rx, mq_op, mq_b2, hz])
  · cases a with
    | none =>
      have ha1 : nu p = 1 := ha
      cases b with
      | none =>
        have hb1 : nu (p + 1) = 1 := hb
        simp [wpX_holdUnlessNull, wX_holdUnlessNull_28, wX_holdUnlessNull_33, wX_holdUnlessNull_70, wX_holdUnlessNull_74, wX_holdUnlessNull_75, wpX_numberOf, wpX_truthOf, wX_truthOf_79, wX_truthOf_95, wX_truthOf_111, wX_truthOf_127, wX_truthOf_132, wX_truthOf_143, wX_truthOf_145, nI_1, i1, i2, c1, c2, mn_b0, mn_b1, ha1, hb1, hz]
        exact K _ _ (by simp [mq_rx, mq_op, mq_b2, hz])
      | some y =>
        obtain ⟨hb1, rfl⟩ := hb
        simp [wpX_holdUnlessNull, wX_holdUnlessNull_28, wX_holdUnlessNull_33, wX_holdUnlessNull_70, wX_holdUnlessNull_74, wX_holdUnlessNull_75, wpX_numberOf, wpX_truthOf, wX_truthOf_79, wX_truthOf_95, wX_truthOf_111, wX_truthOf_127, wX_truthOf_132, wX_truthOf_143, wX_truthOf_145, nI_1, i1, i2, c1, c2, mn_b0, mn_b1, ha1, hb1, hz]
        exact K _ _ (by simp [mq_rx, mq_op, mq_b2, hz])
    | some x =>
      obtain ⟨ha1, rfl⟩ := ha
      cases b with
      | none =>
        have hb1 : nu (p + 1) = 1 := hb
        simp [wpX_holdUnlessNull, wX_holdUnlessNull_28, wX_holdUnlessNull_33, wX_holdUnlessNull_70, wX_holdUnlessNull_74, wX_holdUnlessNull_75, wpX_numberOf, wpX_truthOf, wX_truthOf_79, wX_truthOf_95, wX_truthOf_111, wX_truthOf_127, wX_truthOf_132, wX_truthOf_143, wX_truthOf_145, nI_1, i1, i2, c1, c2, mn_b0, mn_b1, ha1, hb1, hz]
        exact K _ _ (by simp [mq_rx, mq_op, mq_b2, hz])
      | some y =>
        obtain ⟨hb1, rfl⟩ := hb
        simp [wpX_holdUnlessNull, wX_holdUnlessNull_28, wX_holdUnlessNull_33, wX_holdUnlessNull_70, wX_holdUnlessNull_74, wX_holdUnlessNull_75, wpX_numberOf, wpX_truthOf, wX_truthOf_79, wX_truthOf_95, wX_truthOf_111, wX_truthOf_127, wX_truthOf_132, wX_truthOf_143, wX_truthOf_145, nI_1, i1, i2, c1, c2, mn_b0, mn_b1, ha1, hb1, hz]
        exact K _ _ (by simp [mq_rx, mq_op, mq_b2, hz])
theorem mx_h14 {post : SX → Prop} {gc pc tm : Int32} {ce rc tk co ln ki : Nat → Int32} {nm : Nat → Int64} {nu pr : Nat → Int32} {fa : Nat → Int64} {p : Nat} (hp : p + 1 < 20) {a b c : Option Int64} (ha : mq_rx (nu p) (nm p) a) (hb : mq_rx (nu (p + 1)) (nm (p + 1)) b)
    (K : ∀ x y, mq_rx x y (mq_op 14 a b c) → post (gc, pc, tm, ce, rc, tk, co, ln, ki, vp_updL nm (p + 1) y, upd nu (p + 1) x, pr, fa)) : wpX_holdUnlessNull post (gc, pc, tm, ce, rc, tk, co, ln, ki, nm, nu, pr, fa) 14 (nI p) (nI (p + 1)) := by
  have i1 : vp_in (nI p) 20 := vp_in_nI (by omega) (by decide)
  have c1 : (nI p).toNatClampNeg = p := nI_clamp (by omega)
  have i2 : vp_in (nI (p + 1)) 20 := vp_in_nI (by omega) (by decide)
  have c2 : (nI (p + 1)).toNatClampNeg = p + 1 := nI_clamp (by omega)
  by_cases hz : nm (p + 1) = 0
  · cases a with
    | none =>
      have ha1 : nu p = 1 := ha
      cases b with
      | none =>
        have hb1 : nu (p + 1) = 1 := hb
        simp [wpX_holdUnlessNull, wX_holdUnlessNull_28, wX_holdUnlessNull_33, wX_holdUnlessNull_70, wX_holdUnlessNull_74, wX_holdUnlessNull_75, wpX_numberOf, wpX_truthOf, wX_truthOf_79, wX_truthOf_95, wX_truthOf_111, wX_truthOf_127, wX_truthOf_132, wX_truthOf_143, wX_truthOf_145, nI_1, i1, i2, c1, c2, mn_b0, mn_b1, ha1, hb1, hz]
        exact K _ _ (by simp [mq_rx, mq_op, mq_b2, hz])
      | some y =>
        obtain ⟨hb1, rfl⟩ := hb
        simp [wpX_holdUnlessNull, wX_holdUnlessNull_28, wX_holdUnlessNull_33, wX_holdUnlessNull_70, wX_holdUnlessNull_74, wX_holdUnlessNull_75, wpX_numberOf, wpX_truthOf, wX_truthOf_79, wX_truthOf_95, wX_truthOf_111, wX_truthOf_127, wX_truthOf_132, wX_truthOf_143, wX_truthOf_145, nI_1, i1, i2, c1, c2, mn_b0, mn_b1, ha1, hb1, hz]
        exact K _ _ (by simp [mq_rx, mq_op, mq_b2, hz])
    | some x =>
      obtain ⟨ha1, rfl⟩ := ha
      cases b with
      | none =>
        have hb1 : nu (p + 1) = 1 := hb
        simp [wpX_holdUnlessNull, wX_holdUnlessNull_28, wX_holdUnlessNull_33, wX_holdUnlessNull_70, wX_holdUnlessNull_74, wX_holdUnlessNull_75, wpX_numberOf, wpX_truthOf, wX_truthOf_79, wX_truthOf_95, wX_truthOf_111, wX_truthOf_127, wX_truthOf_132, wX_truthOf_143, wX_truthOf_145, nI_1, i1, i2, c1, c2, mn_b0, mn_b1, ha1, hb1, hz]
        exact K _ _ (by simp [mq_rx, mq_op, mq_b2, hz])
      | some y =>
        obtain ⟨hb1, rfl⟩ := hb
        simp [wpX_holdUnlessNull, wX_holdUnlessNull_28, wX_holdUnlessNull_33, wX_holdUnlessNull_70, wX_holdUnlessNull_74, wX_holdUnlessNull_75, wpX_numberOf, wpX_truthOf, wX_truthOf_79, wX_truthOf_95, wX_truthOf_111, wX_truthOf_127, wX_truthOf_132, wX_truthOf_143, wX_truthOf_145, nI_1, i1, i2, c1, c2, mn_b0, mn_b1, ha1, hb1, hz]
        exact K _ _ (by simp [mq_rx, mq_op, mq_b2, hz])
  · cases a with
    | none =>
      have ha1 : nu p = 1 := ha
      cases b with
      | none =>
        have hb1 : nu (p + 1) = 1 := hb
        simp [wpX_holdUnlessNull, wX_holdUnlessNull_28, wX_holdUnlessNull_33, wX_holdUnlessNull_70, wX_holdUnlessNull_74, wX_holdUnlessNull_75, wpX_numberOf, wpX_truthOf, wX_truthOf_79, wX_truthOf_95, wX_truthOf_111, wX_truthOf_127, wX_truthOf_132, wX_truthOf_143, wX_truthOf_145, nI_1, i1, i2, c1, c2, mn_b0, mn_b1, ha1, hb1, hz]
        exact K _ _ (by simp [mq_rx, mq_op, mq_b2, hz])
      | some y =>
        obtain ⟨hb1, rfl⟩ := hb
        simp [wpX_holdUnlessNull, wX_holdUnlessNull_28, wX_holdUnlessNull_33, wX_holdUnlessNull_70, wX_holdUnlessNull_74, wX_holdUnlessNull_75, wpX_numberOf, wpX_truthOf, wX_truthOf_79, wX_truthOf_95, wX_truthOf_111, wX_truthOf_127, wX_truthOf_132, wX_truthOf_143, wX_truthOf_145, nI_1, i1, i2, c1, c2, mn_b0, mn_b1, ha1, hb1, hz]
        exact K _ _ (by simp [mq_rx, mq_op, mq_b2, hz])
    | some x =>
      obtain ⟨ha1, rfl⟩ := ha
      cases b with
      | none =>
        have hb1 : nu (p + 1) = 1 := hb
        simp [wpX_holdUnlessNull, wX_holdUnlessNull_28, wX_holdUnlessNull_33, wX_holdUnlessNull_70, wX_holdUnlessNull_74, wX_holdUnlessNull_75, wpX_numberOf, wpX_truthOf, wX_truthOf_79, wX_truthOf_95, wX_truthOf_111, wX_truthOf_127, wX_truthOf_132, wX_truthOf_143, wX_truthOf_145, nI_1, i1, i2, c1, c2, mn_b0, mn_b1, ha1, hb1, hz]
        exact K _ _ (by simp [mq_rx, mq_op, mq_b2, hz])
      | some y =>
        obtain ⟨hb1, rfl⟩ := hb
        simp [wpX_holdUnlessNull, wX_holdUnlessNull_28, wX_holdUnlessNull_33, wX_holdUnlessNull_70, wX_holdUnlessNull_74, wX_holdUnlessNull_75, wpX_numberOf, wpX_truthOf, wX_truthOf_79, wX_truthOf_95, wX_truthOf_111, wX_truthOf_127, wX_truthOf_132, wX_truthOf_143, wX_truthOf_145, nI_1, i1, i2, c1, c2, mn_b0, mn_b1, ha1, hb1, hz]
        exact K _ _ (by simp [mq_rx, mq_op, mq_b2, hz])
theorem mx_h20 {post : SX → Prop} {gc pc tm : Int32} {ce rc tk co ln ki : Nat → Int32} {nm : Nat → Int64} {nu pr : Nat → Int32} {fa : Nat → Int64} {p : Nat} (hp : p + 1 < 20) {a b c : Option Int64} (ha : mq_rx (nu p) (nm p) a) (hb : mq_rx (nu (p + 1)) (nm (p + 1)) b)
    (K : ∀ x y, mq_rx x y (mq_op 20 a b c) → post (gc, pc, tm, ce, rc, tk, co, ln, ki, vp_updL nm (p + 1) y, upd nu (p + 1) x, pr, fa)) : wpX_holdUnlessNull post (gc, pc, tm, ce, rc, tk, co, ln, ki, nm, nu, pr, fa) 20 (nI p) (nI (p + 1)) := by
  have i1 : vp_in (nI p) 20 := vp_in_nI (by omega) (by decide)
  have c1 : (nI p).toNatClampNeg = p := nI_clamp (by omega)
  have i2 : vp_in (nI (p + 1)) 20 := vp_in_nI (by omega) (by decide)
  have c2 : (nI (p + 1)).toNatClampNeg = p + 1 := nI_clamp (by omega)
  by_cases hz : nm p = nm (p + 1)
  · cases a with
    | none =>
      have ha1 : nu p = 1 := ha
      cases b with
      | none =>
        have hb1 : nu (p + 1) = 1 := hb
        simp [wpX_holdUnlessNull, wX_holdUnlessNull_28, wX_holdUnlessNull_33, wX_holdUnlessNull_70, wX_holdUnlessNull_74, wX_holdUnlessNull_75, wpX_numberOf, wpX_truthOf, wX_truthOf_79, wX_truthOf_95, wX_truthOf_111, wX_truthOf_127, wX_truthOf_132, wX_truthOf_143, wX_truthOf_145, nI_1, i1, i2, c1, c2, mn_b0, mn_b1, ha1, hb1, hz]
        exact K _ _ (by simp [mq_rx, mq_op, mq_b2, hz])
      | some y =>
        obtain ⟨hb1, rfl⟩ := hb
        simp [wpX_holdUnlessNull, wX_holdUnlessNull_28, wX_holdUnlessNull_33, wX_holdUnlessNull_70, wX_holdUnlessNull_74, wX_holdUnlessNull_75, wpX_numberOf, wpX_truthOf, wX_truthOf_79, wX_truthOf_95, wX_truthOf_111, wX_truthOf_127, wX_truthOf_132, wX_truthOf_143, wX_truthOf_145, nI_1, i1, i2, c1, c2, mn_b0, mn_b1, ha1, hb1, hz]
        exact K _ _ (by simp [mq_rx, mq_op, mq_b2, hz])
    | some x =>
      obtain ⟨ha1, rfl⟩ := ha
      cases b with
      | none =>
        have hb1 : nu (p + 1) = 1 := hb
        simp [wpX_holdUnlessNull, wX_holdUnlessNull_28, wX_holdUnlessNull_33, wX_holdUnlessNull_70, wX_holdUnlessNull_74, wX_holdUnlessNull_75, wpX_numberOf, wpX_truthOf, wX_truthOf_79, wX_truthOf_95, wX_truthOf_111, wX_truthOf_127, wX_truthOf_132, wX_truthOf_143, wX_truthOf_145, nI_1, i1, i2, c1, c2, mn_b0, mn_b1, ha1, hb1, hz]
        exact K _ _ (by simp [mq_rx, mq_op, mq_b2, hz])
      | some y =>
        obtain ⟨hb1, rfl⟩ := hb
        simp [wpX_holdUnlessNull, wX_holdUnlessNull_28, wX_holdUnlessNull_33, wX_holdUnlessNull_70, wX_holdUnlessNull_74, wX_holdUnlessNull_75, wpX_numberOf, wpX_truthOf, wX_truthOf_79, wX_truthOf_95, wX_truthOf_111, wX_truthOf_127, wX_truthOf_132, wX_truthOf_143, wX_truthOf_145, nI_1, i1, i2, c1, c2, mn_b0, mn_b1, ha1, hb1, hz]
        exact K _ _ (by simp [mq_rx, mq_op, mq_b2, hz])
  · cases a with
    | none =>
      have ha1 : nu p = 1 := ha
      cases b with
      | none =>
        have hb1 : nu (p + 1) = 1 := hb
        simp [wpX_holdUnlessNull, wX_holdUnlessNull_28, wX_holdUnlessNull_33, wX_holdUnlessNull_70, wX_holdUnlessNull_74, wX_holdUnlessNull_75, wpX_numberOf, wpX_truthOf, wX_truthOf_79, wX_truthOf_95, wX_truthOf_111, wX_truthOf_127, wX_truthOf_132, wX_truthOf_143, wX_truthOf_145, nI_1, i1, i2, c1, c2, mn_b0, mn_b1, ha1, hb1, hz]
        exact K _ _ (by simp [mq_rx, mq_op, mq_b2, hz])
      | some y =>
        obtain ⟨hb1, rfl⟩ := hb
        simp [wpX_holdUnlessNull, wX_holdUnlessNull_28, wX_holdUnlessNull_33, wX_holdUnlessNull_70, wX_holdUnlessNull_74, wX_holdUnlessNull_75, wpX_numberOf, wpX_truthOf, wX_truthOf_79, wX_truthOf_95, wX_truthOf_111, wX_truthOf_127, wX_truthOf_132, wX_truthOf_143, wX_truthOf_145, nI_1, i1, i2, c1, c2, mn_b0, mn_b1, ha1, hb1, hz]
        exact K _ _ (by simp [mq_rx, mq_op, mq_b2, hz])
    | some x =>
      obtain ⟨ha1, rfl⟩ := ha
      cases b with
      | none =>
        have hb1 : nu (p + 1) = 1 := hb
        simp [wpX_holdUnlessNull, wX_holdUnlessNull_28, wX_holdUnlessNull_33, wX_holdUnlessNull_70, wX_holdUnlessNull_74, wX_holdUnlessNull_75, wpX_numberOf, wpX_truthOf, wX_truthOf_79, wX_truthOf_95, wX_truthOf_111, wX_truthOf_127, wX_truthOf_132, wX_truthOf_143, wX_truthOf_145, nI_1, i1, i2, c1, c2, mn_b0, mn_b1, ha1, hb1, hz]
        exact K _ _ (by simp [mq_rx, mq_op, mq_b2, hz])
      | some y =>
        obtain ⟨hb1, rfl⟩ := hb
        simp [wpX_holdUnlessNull, wX_holdUnlessNull_28, wX_holdUnlessNull_33, wX_holdUnlessNull_70, wX_holdUnlessNull_74, wX_holdUnlessNull_75, wpX_numberOf, wpX_truthOf, wX_truthOf_79, wX_truthOf_95, wX_truthOf_111, wX_truthOf_127, wX_truthOf_132, wX_truthOf_143, wX_truthOf_145, nI_1, i1, i2, c1, c2, mn_b0, mn_b1, ha1, hb1, hz]
        exact K _ _ (by simp [mq_rx, mq_op, mq_b2, hz])
theorem mx_h21 {post : SX → Prop} {gc pc tm : Int32} {ce rc tk co ln ki : Nat → Int32} {nm : Nat → Int64} {nu pr : Nat → Int32} {fa : Nat → Int64} {p : Nat} (hp : p + 1 < 20) {a b c : Option Int64} (ha : mq_rx (nu p) (nm p) a) (hb : mq_rx (nu (p + 1)) (nm (p + 1)) b)
    (K : ∀ x y, mq_rx x y (mq_op 21 a b c) → post (gc, pc, tm, ce, rc, tk, co, ln, ki, vp_updL nm (p + 1) y, upd nu (p + 1) x, pr, fa)) : wpX_holdUnlessNull post (gc, pc, tm, ce, rc, tk, co, ln, ki, nm, nu, pr, fa) 21 (nI p) (nI (p + 1)) := by
  have i1 : vp_in (nI p) 20 := vp_in_nI (by omega) (by decide)
  have c1 : (nI p).toNatClampNeg = p := nI_clamp (by omega)
  have i2 : vp_in (nI (p + 1)) 20 := vp_in_nI (by omega) (by decide)
  have c2 : (nI (p + 1)).toNatClampNeg = p + 1 := nI_clamp (by omega)
  by_cases hz : nm (p + 1) ≤ nm p
  · have hz' : ¬ nm p < nm (p + 1) := Int64.not_lt.mpr hz
    cases a with
    | none =>
      have ha1 : nu p = 1 := ha
      cases b with
      | none =>
        have hb1 : nu (p + 1) = 1 := hb
        simp [wpX_holdUnlessNull, wX_holdUnlessNull_28, wX_holdUnlessNull_33, wX_holdUnlessNull_70, wX_holdUnlessNull_74, wX_holdUnlessNull_75, wpX_numberOf, wpX_truthOf, wX_truthOf_79, wX_truthOf_95, wX_truthOf_111, wX_truthOf_127, wX_truthOf_132, wX_truthOf_143, wX_truthOf_145, nI_1, i1, i2, c1, c2, mn_b0, mn_b1, ha1, hb1, hz, hz']
        exact K _ _ (by simp [mq_rx, mq_op, mq_b2, hz, hz'])
      | some y =>
        obtain ⟨hb1, rfl⟩ := hb
        simp [wpX_holdUnlessNull, wX_holdUnlessNull_28, wX_holdUnlessNull_33, wX_holdUnlessNull_70, wX_holdUnlessNull_74, wX_holdUnlessNull_75, wpX_numberOf, wpX_truthOf, wX_truthOf_79, wX_truthOf_95, wX_truthOf_111, wX_truthOf_127, wX_truthOf_132, wX_truthOf_143, wX_truthOf_145, nI_1, i1, i2, c1, c2, mn_b0, mn_b1, ha1, hb1, hz, hz']
        exact K _ _ (by simp [mq_rx, mq_op, mq_b2, hz, hz'])
    | some x =>
      obtain ⟨ha1, rfl⟩ := ha
      cases b with
      | none =>
        have hb1 : nu (p + 1) = 1 := hb
        simp [wpX_holdUnlessNull, wX_holdUnlessNull_28, wX_holdUnlessNull_33, wX_holdUnlessNull_70, wX_holdUnlessNull_74, wX_holdUnlessNull_75, wpX_numberOf, wpX_truthOf, wX_truthOf_79, wX_truthOf_95, wX_truthOf_111, wX_truthOf_127, wX_truthOf_132, wX_truthOf_143, wX_truthOf_145, nI_1, i1, i2, c1, c2, mn_b0, mn_b1, ha1, hb1, hz, hz']
        exact K _ _ (by simp [mq_rx, mq_op, mq_b2, hz, hz'])
      | some y =>
        obtain ⟨hb1, rfl⟩ := hb
        simp [wpX_holdUnlessNull, wX_holdUnlessNull_28, wX_holdUnlessNull_33, wX_holdUnlessNull_70, wX_holdUnlessNull_74, wX_holdUnlessNull_75, wpX_numberOf, wpX_truthOf, wX_truthOf_79, wX_truthOf_95, wX_truthOf_111, wX_truthOf_127, wX_truthOf_132, wX_truthOf_143, wX_truthOf_145, nI_1, i1, i2, c1, c2, mn_b0, mn_b1, ha1, hb1, hz, hz']
        exact K _ _ (by simp [mq_rx, mq_op, mq_b2, hz, hz'])
  · have hz' : nm p < nm (p + 1) := Int64.not_le.mp hz
    cases a with
    | none =>
      have ha1 : nu p = 1 := ha
      cases b with
      | none =>
        have hb1 : nu (p + 1) = 1 := hb
        simp [wpX_holdUnlessNull, wX_holdUnlessNull_28, wX_holdUnlessNull_33, wX_holdUnlessNull_70, wX_holdUnlessNull_74, wX_holdUnlessNull_75, wpX_numberOf, wpX_truthOf, wX_truthOf_79, wX_truthOf_95, wX_truthOf_111, wX_truthOf_127, wX_truthOf_132, wX_truthOf_143, wX_truthOf_145, nI_1, i1, i2, c1, c2, mn_b0, mn_b1, ha1, hb1, hz, hz']
        exact K _ _ (by simp [mq_rx, mq_op, mq_b2, hz, hz'])
      | some y =>
        obtain ⟨hb1, rfl⟩ := hb
        simp [wpX_holdUnlessNull, wX_holdUnlessNull_28, wX_holdUnlessNull_33, wX_holdUnlessNull_70, wX_holdUnlessNull_74, wX_holdUnlessNull_75, wpX_numberOf, wpX_truthOf, wX_truthOf_79, wX_truthOf_95, wX_truthOf_111, wX_truthOf_127, wX_truthOf_132, wX_truthOf_143, wX_truthOf_145, nI_1, i1, i2, c1, c2, mn_b0, mn_b1, ha1, hb1, hz, hz']
        exact K _ _ (by simp [mq_rx, mq_op, mq_b2, hz, hz'])
    | some x =>
      obtain ⟨ha1, rfl⟩ := ha
      cases b with
      | none =>
        have hb1 : nu (p + 1) = 1 := hb
        simp [wpX_holdUnlessNull, wX_holdUnlessNull_28, wX_holdUnlessNull_33, wX_holdUnlessNull_70, wX_holdUnlessNull_74, wX_holdUnlessNull_75, wpX_numberOf, wpX_truthOf, wX_truthOf_79, wX_truthOf_95, wX_truthOf_111, wX_truthOf_127, wX_truthOf_132, wX_truthOf_143, wX_truthOf_145, nI_1, i1, i2, c1, c2, mn_b0, mn_b1, ha1, hb1, hz, hz']
        exact K _ _ (by simp [mq_rx, mq_op, mq_b2, hz, hz'])
      | some y =>
        obtain ⟨hb1, rfl⟩ := hb
        simp [wpX_holdUnlessNull, wX_holdUnlessNull_28, wX_holdUnlessNull_33, wX_holdUnlessNull_70, wX_holdUnlessNull_74, wX_holdUnlessNull_75, wpX_numberOf, wpX_truthOf, wX_truthOf_79, wX_truthOf_95, wX_truthOf_111, wX_truthOf_127, wX_truthOf_132, wX_truthOf_143, wX_truthOf_145, nI_1, i1, i2, c1, c2, mn_b0, mn_b1, ha1, hb1, hz, hz']
        exact K _ _ (by simp [mq_rx, mq_op, mq_b2, hz, hz'])
theorem mx_h22 {post : SX → Prop} {gc pc tm : Int32} {ce rc tk co ln ki : Nat → Int32} {nm : Nat → Int64} {nu pr : Nat → Int32} {fa : Nat → Int64} {p : Nat} (hp : p + 1 < 20) {a b c : Option Int64} (ha : mq_rx (nu p) (nm p) a) (hb : mq_rx (nu (p + 1)) (nm (p + 1)) b)
    (K : ∀ x y, mq_rx x y (mq_op 22 a b c) → post (gc, pc, tm, ce, rc, tk, co, ln, ki, vp_updL nm (p + 1) y, upd nu (p + 1) x, pr, fa)) : wpX_holdUnlessNull post (gc, pc, tm, ce, rc, tk, co, ln, ki, nm, nu, pr, fa) 22 (nI p) (nI (p + 1)) := by
  have i1 : vp_in (nI p) 20 := vp_in_nI (by omega) (by decide)
  have c1 : (nI p).toNatClampNeg = p := nI_clamp (by omega)
  have i2 : vp_in (nI (p + 1)) 20 := vp_in_nI (by omega) (by decide)
  have c2 : (nI (p + 1)).toNatClampNeg = p + 1 := nI_clamp (by omega)
  by_cases hz : nm (p + 1) < nm p
  · have hz' : ¬ nm p ≤ nm (p + 1) := Int64.not_le.mpr hz
    cases a with
    | none =>
      have ha1 : nu p = 1 := ha
      cases b with
      | none =>
        have hb1 : nu (p + 1) = 1 := hb
        simp [wpX_holdUnlessNull, wX_holdUnlessNull_28, wX_holdUnlessNull_33, wX_holdUnlessNull_70, wX_holdUnlessNull_74, wX_holdUnlessNull_75, wpX_numberOf, wpX_truthOf, wX_truthOf_79, wX_truthOf_95, wX_truthOf_111, wX_truthOf_127, wX_truthOf_132, wX_truthOf_143, wX_truthOf_145, nI_1, i1, i2, c1, c2, mn_b0, mn_b1, ha1, hb1, hz, hz']
        exact K _ _ (by simp [mq_rx, mq_op, mq_b2, hz, hz'])
      | some y =>
        obtain ⟨hb1, rfl⟩ := hb
        simp [wpX_holdUnlessNull, wX_holdUnlessNull_28, wX_holdUnlessNull_33, wX_holdUnlessNull_70, wX_holdUnlessNull_74, wX_holdUnlessNull_75, wpX_numberOf, wpX_truthOf, wX_truthOf_79, wX_truthOf_95, wX_truthOf_111, wX_truthOf_127, wX_truthOf_132, wX_truthOf_143, wX_truthOf_145, nI_1, i1, i2, c1, c2, mn_b0, mn_b1, ha1, hb1, hz, hz']
        exact K _ _ (by simp [mq_rx, mq_op, mq_b2, hz, hz'])
    | some x =>
      obtain ⟨ha1, rfl⟩ := ha
      cases b with
      | none =>
        have hb1 : nu (p + 1) = 1 := hb
        simp [wpX_holdUnlessNull, wX_holdUnlessNull_28, wX_holdUnlessNull_33, wX_holdUnlessNull_70, wX_holdUnlessNull_74, wX_holdUnlessNull_75, wpX_numberOf, wpX_truthOf, wX_truthOf_79, wX_truthOf_95, wX_truthOf_111, wX_truthOf_127, wX_truthOf_132, wX_truthOf_143, wX_truthOf_145, nI_1, i1, i2, c1, c2, mn_b0, mn_b1, ha1, hb1, hz, hz']
        exact K _ _ (by simp [mq_rx, mq_op, mq_b2, hz, hz'])
      | some y =>
        obtain ⟨hb1, rfl⟩ := hb
        simp [wpX_holdUnlessNull, wX_holdUnlessNull_28, wX_holdUnlessNull_33, wX_holdUnlessNull_70, wX_holdUnlessNull_74, wX_holdUnlessNull_75, wpX_numberOf, wpX_truthOf, wX_truthOf_79, wX_truthOf_95, wX_truthOf_111, wX_truthOf_127, wX_truthOf_132, wX_truthOf_143, wX_truthOf_145, nI_1, i1, i2, c1, c2, mn_b0, mn_b1, ha1, hb1, hz, hz']
        exact K _ _ (by simp [mq_rx, mq_op, mq_b2, hz, hz'])
  · have hz' : nm p ≤ nm (p + 1) := Int64.not_lt.mp hz
    cases a with
    | none =>
      have ha1 : nu p = 1 := ha
      cases b with
      | none =>
        have hb1 : nu (p + 1) = 1 := hb
        simp [wpX_holdUnlessNull, wX_holdUnlessNull_28, wX_holdUnlessNull_33, wX_holdUnlessNull_70, wX_holdUnlessNull_74, wX_holdUnlessNull_75, wpX_numberOf, wpX_truthOf, wX_truthOf_79, wX_truthOf_95, wX_truthOf_111, wX_truthOf_127, wX_truthOf_132, wX_truthOf_143, wX_truthOf_145, nI_1, i1, i2, c1, c2, mn_b0, mn_b1, ha1, hb1, hz, hz']
        exact K _ _ (by simp [mq_rx, mq_op, mq_b2, hz, hz'])
      | some y =>
        obtain ⟨hb1, rfl⟩ := hb
        simp [wpX_holdUnlessNull, wX_holdUnlessNull_28, wX_holdUnlessNull_33, wX_holdUnlessNull_70, wX_holdUnlessNull_74, wX_holdUnlessNull_75, wpX_numberOf, wpX_truthOf, wX_truthOf_79, wX_truthOf_95, wX_truthOf_111, wX_truthOf_127, wX_truthOf_132, wX_truthOf_143, wX_truthOf_145, nI_1, i1, i2, c1, c2, mn_b0, mn_b1, ha1, hb1, hz, hz']
        exact K _ _ (by simp [mq_rx, mq_op, mq_b2, hz, hz'])
    | some x =>
      obtain ⟨ha1, rfl⟩ := ha
      cases b with
      | none =>
        have hb1 : nu (p + 1) = 1 := hb
        simp [wpX_holdUnlessNull, wX_holdUnlessNull_28, wX_holdUnlessNull_33, wX_holdUnlessNull_70, wX_holdUnlessNull_74, wX_holdUnlessNull_75, wpX_numberOf, wpX_truthOf, wX_truthOf_79, wX_truthOf_95, wX_truthOf_111, wX_truthOf_127, wX_truthOf_132, wX_truthOf_143, wX_truthOf_145, nI_1, i1, i2, c1, c2, mn_b0, mn_b1, ha1, hb1, hz, hz']
        exact K _ _ (by simp [mq_rx, mq_op, mq_b2, hz, hz'])
      | some y =>
        obtain ⟨hb1, rfl⟩ := hb
        simp [wpX_holdUnlessNull, wX_holdUnlessNull_28, wX_holdUnlessNull_33, wX_holdUnlessNull_70, wX_holdUnlessNull_74, wX_holdUnlessNull_75, wpX_numberOf, wpX_truthOf, wX_truthOf_79, wX_truthOf_95, wX_truthOf_111, wX_truthOf_127, wX_truthOf_132, wX_truthOf_143, wX_truthOf_145, nI_1, i1, i2, c1, c2, mn_b0, mn_b1, ha1, hb1, hz, hz']
        exact K _ _ (by simp [mq_rx, mq_op, mq_b2, hz, hz'])
theorem mx_h23 {post : SX → Prop} {gc pc tm : Int32} {ce rc tk co ln ki : Nat → Int32} {nm : Nat → Int64} {nu pr : Nat → Int32} {fa : Nat → Int64} {p : Nat} (hp : p + 1 < 20) {a b c : Option Int64} (ha : mq_rx (nu p) (nm p) a) (hb : mq_rx (nu (p + 1)) (nm (p + 1)) b)
    (K : ∀ x y, mq_rx x y (mq_op 23 a b c) → post (gc, pc, tm, ce, rc, tk, co, ln, ki, vp_updL nm (p + 1) y, upd nu (p + 1) x, pr, fa)) : wpX_holdUnlessNull post (gc, pc, tm, ce, rc, tk, co, ln, ki, nm, nu, pr, fa) 23 (nI p) (nI (p + 1)) := by
  have i1 : vp_in (nI p) 20 := vp_in_nI (by omega) (by decide)
  have c1 : (nI p).toNatClampNeg = p := nI_clamp (by omega)
  have i2 : vp_in (nI (p + 1)) 20 := vp_in_nI (by omega) (by decide)
  have c2 : (nI (p + 1)).toNatClampNeg = p + 1 := nI_clamp (by omega)
  by_cases hz : nm p = nm (p + 1)
  · cases a with
    | none =>
      have ha1 : nu p = 1 := ha
      cases b with
      | none =>
        have hb1 : nu (p + 1) = 1 := hb
        simp [wpX_holdUnlessNull, wX_holdUnlessNull_28, wX_holdUnlessNull_33, wX_holdUnlessNull_70, wX_holdUnlessNull_74, wX_holdUnlessNull_75, wpX_numberOf, wpX_truthOf, wX_truthOf_79, wX_truthOf_95, wX_truthOf_111, wX_truthOf_127, wX_truthOf_132, wX_truthOf_143, wX_truthOf_145, nI_1, i1, i2, c1, c2, mn_b0, mn_b1, ha1, hb1, hz]
        exact K _ _ (by simp [mq_rx, mq_op, mq_b2, hz])
      | some y =>
        obtain ⟨hb1, rfl⟩ := hb
        simp [wpX_holdUnlessNull, wX_holdUnlessNull_28, wX_holdUnlessNull_33, wX_holdUnlessNull_70, wX_holdUnlessNull_74, wX_holdUnlessNull_75, wpX_numberOf, wpX_truthOf, wX_truthOf_79, wX_truthOf_95, wX_truthOf_111, wX_truthOf_127, wX_truthOf_132, wX_truthOf_143, wX_truthOf_145, nI_1, i1, i2, c1, c2, mn_b0, mn_b1, ha1, hb1, hz]
        exact K _ _ (by simp [mq_rx, mq_op, mq_b2, hz])
    | some x =>
      obtain ⟨ha1, rfl⟩ := ha
      cases b with
      | none =>
        have hb1 : nu (p + 1) = 1 := hb
        simp [wpX_holdUnlessNull, wX_holdUnlessNull_28, wX_holdUnlessNull_33, wX_holdUnlessNull_70, wX_holdUnlessNull_74, wX_holdUnlessNull_75, wpX_numberOf, wpX_truthOf, wX_truthOf_79, wX_truthOf_95, wX_truthOf_111, wX_truthOf_127, wX_truthOf_132, wX_truthOf_143, wX_truthOf_145, nI_1, i1, i2, c1, c2, mn_b0, mn_b1, ha1, hb1, hz]
        exact K _ _ (by simp [mq_rx, mq_op, mq_b2, hz])
      | some y =>
        obtain ⟨hb1, rfl⟩ := hb
        simp [wpX_holdUnlessNull, wX_holdUnlessNull_28, wX_holdUnlessNull_33, wX_holdUnlessNull_70, wX_holdUnlessNull_74, wX_holdUnlessNull_75, wpX_numberOf, wpX_truthOf, wX_truthOf_79, wX_truthOf_95, wX_truthOf_111, wX_truthOf_127, wX_truthOf_132, wX_truthOf_143, wX_truthOf_145, nI_1, i1, i2, c1, c2, mn_b0, mn_b1, ha1, hb1, hz]
        exact K _ _ (by simp [mq_rx, mq_op, mq_b2, hz])
  · cases a with
    | none =>
      have ha1 : nu p = 1 := ha
      cases b with
      | none =>
        have hb1 : nu (p + 1) = 1 := hb
        simp [wpX_holdUnlessNull, wX_holdUnlessNull_28, wX_holdUnlessNull_33, wX_holdUnlessNull_70, wX_holdUnlessNull_74, wX_holdUnlessNull_75, wpX_numberOf, wpX_truthOf, wX_truthOf_79, wX_truthOf_95, wX_truthOf_111, wX_truthOf_127, wX_truthOf_132, wX_truthOf_143, wX_truthOf_145, nI_1, i1, i2, c1, c2, mn_b0, mn_b1, ha1, hb1, hz]
        exact K _ _ (by simp [mq_rx, mq_op, mq_b2, hz])
      | some y =>
        obtain ⟨hb1, rfl⟩ := hb
        simp [wpX_holdUnlessNull, wX_holdUnlessNull_28, wX_holdUnlessNull_33, wX_holdUnlessNull_70, wX_holdUnlessNull_74, wX_holdUnlessNull_75, wpX_numberOf, wpX_truthOf, wX_truthOf_79, wX_truthOf_95, wX_truthOf_111, wX_truthOf_127, wX_truthOf_132, wX_truthOf_143, wX_truthOf_145, nI_1, i1, i2, c1, c2, mn_b0, mn_b1, ha1, hb1, hz]
        exact K _ _ (by simp [mq_rx, mq_op, mq_b2, hz])
    | some x =>
      obtain ⟨ha1, rfl⟩ := ha
      cases b with
      | none =>
        have hb1 : nu (p + 1) = 1 := hb
        simp [wpX_holdUnlessNull, wX_holdUnlessNull_28, wX_holdUnlessNull_33, wX_holdUnlessNull_70, wX_holdUnlessNull_74, wX_holdUnlessNull_75, wpX_numberOf, wpX_truthOf, wX_truthOf_79, wX_truthOf_95, wX_truthOf_111, wX_truthOf_127, wX_truthOf_132, wX_truthOf_143, wX_truthOf_145, nI_1, i1, i2, c1, c2, mn_b0, mn_b1, ha1, hb1, hz]
        exact K _ _ (by simp [mq_rx, mq_op, mq_b2, hz])
      | some y =>
        obtain ⟨hb1, rfl⟩ := hb
        simp [wpX_holdUnlessNull, wX_holdUnlessNull_28, wX_holdUnlessNull_33, wX_holdUnlessNull_70, wX_holdUnlessNull_74, wX_holdUnlessNull_75, wpX_numberOf, wpX_truthOf, wX_truthOf_79, wX_truthOf_95, wX_truthOf_111, wX_truthOf_127, wX_truthOf_132, wX_truthOf_143, wX_truthOf_145, nI_1, i1, i2, c1, c2, mn_b0, mn_b1, ha1, hb1, hz]
        exact K _ _ (by simp [mq_rx, mq_op, mq_b2, hz])
theorem mx_h15 {post : SX → Prop} {gc pc tm : Int32} {ce rc tk co ln ki : Nat → Int32} {nm : Nat → Int64} {nu pr : Nat → Int32} {fa : Nat → Int64} {p : Nat} (hp : p < 20) {a b c : Option Int64} (ha : mq_rx (nu p) (nm p) a)
    (K : ∀ x y, mq_rx x y (mq_op 15 a b c) → post (gc, pc, tm, ce, rc, tk, co, ln, ki, vp_updL nm (p) y, upd nu (p) x, pr, fa)) : wpX_holdUnlessNull post (gc, pc, tm, ce, rc, tk, co, ln, ki, nm, nu, pr, fa) 15 (nI p) (nI (p)) := by
  have i1 : vp_in (nI p) 20 := vp_in_nI (by omega) (by decide)
  have c1 : (nI p).toNatClampNeg = p := nI_clamp (by omega)
  cases a with
  | none =>
    have ha1 : nu p = 1 := ha
    simp [wpX_holdUnlessNull, wX_holdUnlessNull_28, wX_holdUnlessNull_33, wX_holdUnlessNull_70, wX_holdUnlessNull_74, wX_holdUnlessNull_75, wpX_numberOf, wpX_truthOf, wX_truthOf_79, wX_truthOf_95, wX_truthOf_111, wX_truthOf_127, wX_truthOf_132, wX_truthOf_143, wX_truthOf_145, nI_1, i1, c1, mn_b0, mn_b1, ha1]
    exact K _ _ (by simp [mq_rx, mq_op, mq_b2])
  | some x =>
    obtain ⟨ha1, rfl⟩ := ha
    simp [wpX_holdUnlessNull, wX_holdUnlessNull_28, wX_holdUnlessNull_33, wX_holdUnlessNull_70, wX_holdUnlessNull_74, wX_holdUnlessNull_75, wpX_numberOf, wpX_truthOf, wX_truthOf_79, wX_truthOf_95, wX_truthOf_111, wX_truthOf_127, wX_truthOf_132, wX_truthOf_143, wX_truthOf_145, nI_1, i1, c1, mn_b0, mn_b1, ha1]
    exact K _ _ (by simp [mq_rx, mq_op, mq_b2])
theorem mx_h32 {post : SX → Prop} {gc pc tm : Int32} {ce rc tk co ln ki : Nat → Int32} {nm : Nat → Int64} {nu pr : Nat → Int32} {fa : Nat → Int64} {p : Nat} (hp : p < 20) {a b c : Option Int64} (ha : mq_rx (nu p) (nm p) a)
    (K : ∀ x y, mq_rx x y (mq_op 32 a b c) → post (gc, pc, tm, ce, rc, tk, co, ln, ki, vp_updL nm (p) y, upd nu (p) x, pr, fa)) : wpX_holdUnlessNull post (gc, pc, tm, ce, rc, tk, co, ln, ki, nm, nu, pr, fa) 32 (nI p) (nI (p)) := by
  have i1 : vp_in (nI p) 20 := vp_in_nI (by omega) (by decide)
  have c1 : (nI p).toNatClampNeg = p := nI_clamp (by omega)
  by_cases hz : nm p = 0
  · cases a with
    | none =>
      have ha1 : nu p = 1 := ha
      simp [wpX_holdUnlessNull, wX_holdUnlessNull_28, wX_holdUnlessNull_33, wX_holdUnlessNull_70, wX_holdUnlessNull_74, wX_holdUnlessNull_75, wpX_numberOf, wpX_truthOf, wX_truthOf_79, wX_truthOf_95, wX_truthOf_111, wX_truthOf_127, wX_truthOf_132, wX_truthOf_143, wX_truthOf_145, nI_1, i1, c1, mn_b0, mn_b1, ha1, hz]
      exact K _ _ (by simp [mq_rx, mq_op, mq_b2, hz])
    | some x =>
      obtain ⟨ha1, rfl⟩ := ha
      simp [wpX_holdUnlessNull, wX_holdUnlessNull_28, wX_holdUnlessNull_33, wX_holdUnlessNull_70, wX_holdUnlessNull_74, wX_holdUnlessNull_75, wpX_numberOf, wpX_truthOf, wX_truthOf_79, wX_truthOf_95, wX_truthOf_111, wX_truthOf_127, wX_truthOf_132, wX_truthOf_143, wX_truthOf_145, nI_1, i1, c1, mn_b0, mn_b1, ha1, hz]
      exact K _ _ (by simp [mq_rx, mq_op, mq_b2, hz])
  · cases a with
    | none =>
      have ha1 : nu p = 1 := ha
      simp [wpX_holdUnlessNull, wX_holdUnlessNull_28, wX_holdUnlessNull_33, wX_holdUnlessNull_70, wX_holdUnlessNull_74, wX_holdUnlessNull_75, wpX_numberOf, wpX_truthOf, wX_truthOf_79, wX_truthOf_95, wX_truthOf_111, wX_truthOf_127, wX_truthOf_132, wX_truthOf_143, wX_truthOf_145, nI_1, i1, c1, mn_b0, mn_b1, ha1, hz]
      exact K _ _ (by simp [mq_rx, mq_op, mq_b2, hz])
    | some x =>
      obtain ⟨ha1, rfl⟩ := ha
      simp [wpX_holdUnlessNull, wX_holdUnlessNull_28, wX_holdUnlessNull_33, wX_holdUnlessNull_70, wX_holdUnlessNull_74, wX_holdUnlessNull_75, wpX_numberOf, wpX_truthOf, wX_truthOf_79, wX_truthOf_95, wX_truthOf_111, wX_truthOf_127, wX_truthOf_132, wX_truthOf_143, wX_truthOf_145, nI_1, i1, c1, mn_b0, mn_b1, ha1, hz]
      exact K _ _ (by simp [mq_rx, mq_op, mq_b2, hz])
theorem mx_h33 {post : SX → Prop} {gc pc tm : Int32} {ce rc tk co ln ki : Nat → Int32} {nm : Nat → Int64} {nu pr : Nat → Int32} {fa : Nat → Int64} {p : Nat} (hp : p < 20) {a b c : Option Int64} (ha : mq_rx (nu p) (nm p) a)
    (K : ∀ x y, mq_rx x y (mq_op 33 a b c) → post (gc, pc, tm, ce, rc, tk, co, ln, ki, vp_updL nm (p) y, upd nu (p) x, pr, fa)) : wpX_holdDespiteNull post (gc, pc, tm, ce, rc, tk, co, ln, ki, nm, nu, pr, fa) 33 (nI p) (nI (p)) := by
  have i1 : vp_in (nI p) 20 := vp_in_nI (by omega) (by decide)
  have c1 : (nI p).toNatClampNeg = p := nI_clamp (by omega)
  cases a with
  | none =>
    have ha1 : nu p = 1 := ha
    simp [wpX_holdDespiteNull, wX_holdDespiteNull_56, wX_holdDespiteNull_85, wX_holdDespiteNull_86, wX_holdDespiteNull_102, wX_holdDespiteNull_104, nI_1, i1, c1, mn_b0, mn_b1, ha1]
    exact K _ _ (by simp [mq_rx, mq_op, mq_b2])
  | some x =>
    obtain ⟨ha1, rfl⟩ := ha
    simp [wpX_holdDespiteNull, wX_holdDespiteNull_56, wX_holdDespiteNull_85, wX_holdDespiteNull_86, wX_holdDespiteNull_102, wX_holdDespiteNull_104, nI_1, i1, c1, mn_b0, mn_b1, ha1]
    exact K _ _ (by simp [mq_rx, mq_op, mq_b2])
theorem mx_h16 {post : SX → Prop} {gc pc tm : Int32} {ce rc tk co ln ki : Nat → Int32} {nm : Nat → Int64} {nu pr : Nat → Int32} {fa : Nat → Int64} {p : Nat} (hp : p + 1 < 20) {a b c : Option Int64} (ha : mq_rx (nu p) (nm p) a) (hb : mq_rx (nu (p + 1)) (nm (p + 1)) b)
    (K : ∀ x y, mq_rx x y (mq_op 16 a b c) → post (gc, pc, tm, ce, rc, tk, co, ln, ki, vp_updL nm (p + 1) y, upd nu (p + 1) x, pr, fa)) : wpX_holdDespiteNull post (gc, pc, tm, ce, rc, tk, co, ln, ki, nm, nu, pr, fa) 16 (nI p) (nI (p + 1)) := by
  have i1 : vp_in (nI p) 20 := vp_in_nI (by omega) (by decide)
  have c1 : (nI p).toNatClampNeg = p := nI_clamp (by omega)
  have i2 : vp_in (nI (p + 1)) 20 := vp_in_nI (by omega) (by decide)
  have c2 : (nI (p + 1)).toNatClampNeg = p + 1 := nI_clamp (by omega)
  cases a with
  | none =>
    have ha1 : nu p = 1 := ha
    cases b with
    | none =>
      have hb1 : nu (p + 1) = 1 := hb
      simp [wpX_holdDespiteNull, wX_holdDespiteNull_56, wX_holdDespiteNull_85, wX_holdDespiteNull_86, wX_holdDespiteNull_102, wX_holdDespiteNull_104, nI_1, i1, i2, c1, c2, mn_b0, mn_b1, ha1, hb1]
      exact K _ _ (by simp [mq_rx, mq_op, mq_b2])
    | some y =>
      obtain ⟨hb1, rfl⟩ := hb
      simp [wpX_holdDespiteNull, wX_holdDespiteNull_56, wX_holdDespiteNull_85, wX_holdDespiteNull_86, wX_holdDespiteNull_102, wX_holdDespiteNull_104, nI_1, i1, i2, c1, c2, mn_b0, mn_b1, ha1, hb1]
      exact K _ _ (by simp [mq_rx, mq_op, mq_b2])
  | some x =>
    obtain ⟨ha1, rfl⟩ := ha
    cases b with
    | none =>
      have hb1 : nu (p + 1) = 1 := hb
      simp [wpX_holdDespiteNull, wX_holdDespiteNull_56, wX_holdDespiteNull_85, wX_holdDespiteNull_86, wX_holdDespiteNull_102, wX_holdDespiteNull_104, nI_1, i1, i2, c1, c2, mn_b0, mn_b1, ha1, hb1]
      exact K _ _ (by simp [mq_rx, mq_op, mq_b2])
    | some y =>
      obtain ⟨hb1, rfl⟩ := hb
      simp [wpX_holdDespiteNull, wX_holdDespiteNull_56, wX_holdDespiteNull_85, wX_holdDespiteNull_86, wX_holdDespiteNull_102, wX_holdDespiteNull_104, nI_1, i1, i2, c1, c2, mn_b0, mn_b1, ha1, hb1]
      exact K _ _ (by simp [mq_rx, mq_op, mq_b2])
theorem mx_h34 {post : SX → Prop} {gc pc tm : Int32} {ce rc tk co ln ki : Nat → Int32} {nm : Nat → Int64} {nu pr : Nat → Int32} {fa : Nat → Int64} {p : Nat} (hp : p + 2 < 20) {a b c : Option Int64} (ha : mq_rx (nu p) (nm p) a) (hb : mq_rx (nu (p + 1)) (nm (p + 1)) b) (hc : mq_rx (nu (p + 2)) (nm (p + 2)) c)
    (K : ∀ x y, mq_rx x y (mq_op 34 a b c) → post (gc, pc, tm, ce, rc, tk, co, ln, ki, vp_updL nm (p + 2) y, upd nu (p + 2) x, pr, fa)) : wpX_holdDespiteNull post (gc, pc, tm, ce, rc, tk, co, ln, ki, nm, nu, pr, fa) 34 (nI p) (nI (p + 2)) := by
  have i1 : vp_in (nI p) 20 := vp_in_nI (by omega) (by decide)
  have c1 : (nI p).toNatClampNeg = p := nI_clamp (by omega)
  have i2 : vp_in (nI (p + 1)) 20 := vp_in_nI (by omega) (by decide)
  have c2 : (nI (p + 1)).toNatClampNeg = p + 1 := nI_clamp (by omega)
  have i3 : vp_in (nI (p + 2)) 20 := vp_in_nI (by omega) (by decide)
  have c3 : (nI (p + 2)).toNatClampNeg = p + 2 := nI_clamp (by omega)
  have mi_2 : nI p + 2 = nI (p + 2) := mi_a p 2
  by_cases hx : nm p = 1
  · cases a with
    | none =>
      have ha1 : nu p = 1 := ha
      cases b with
      | none =>
        have hb1 : nu (p + 1) = 1 := hb
        cases c with
        | none =>
          have hc1 : nu (p + 2) = 1 := hc
          simp [wpX_holdDespiteNull, wX_holdDespiteNull_56, wX_holdDespiteNull_85, wX_holdDespiteNull_86, wX_holdDespiteNull_102, wX_holdDespiteNull_104, nI_1, mi_2, i1, i2, i3, c1, c2, c3, mn_b0, mn_b1, ha1, hb1, hc1, hx]
          exact K _ _ (by simp [mq_rx, mq_op, mq_b2, hx])
        | some z =>
          obtain ⟨hc1, rfl⟩ := hc
          simp [wpX_holdDespiteNull, wX_holdDespiteNull_56, wX_holdDespiteNull_85, wX_holdDespiteNull_86, wX_holdDespiteNull_102, wX_holdDespiteNull_104, nI_1, mi_2, i1, i2, i3, c1, c2, c3, mn_b0, mn_b1, ha1, hb1, hc1, hx]
          exact K _ _ (by simp [mq_rx, mq_op, mq_b2, hx])
      | some y =>
        obtain ⟨hb1, rfl⟩ := hb
        cases c with
        | none =>
          have hc1 : nu (p + 2) = 1 := hc
          simp [wpX_holdDespiteNull, wX_holdDespiteNull_56, wX_holdDespiteNull_85, wX_holdDespiteNull_86, wX_holdDespiteNull_102, wX_holdDespiteNull_104, nI_1, mi_2, i1, i2, i3, c1, c2, c3, mn_b0, mn_b1, ha1, hb1, hc1, hx]
          exact K _ _ (by simp [mq_rx, mq_op, mq_b2, hx])
        | some z =>
          obtain ⟨hc1, rfl⟩ := hc
          simp [wpX_holdDespiteNull, wX_holdDespiteNull_56, wX_holdDespiteNull_85, wX_holdDespiteNull_86, wX_holdDespiteNull_102, wX_holdDespiteNull_104, nI_1, mi_2, i1, i2, i3, c1, c2, c3, mn_b0, mn_b1, ha1, hb1, hc1, hx]
          exact K _ _ (by simp [mq_rx, mq_op, mq_b2, hx])
    | some x =>
      obtain ⟨ha1, rfl⟩ := ha
      cases b with
      | none =>
        have hb1 : nu (p + 1) = 1 := hb
        cases c with
        | none =>
          have hc1 : nu (p + 2) = 1 := hc
          simp [wpX_holdDespiteNull, wX_holdDespiteNull_56, wX_holdDespiteNull_85, wX_holdDespiteNull_86, wX_holdDespiteNull_102, wX_holdDespiteNull_104, nI_1, mi_2, i1, i2, i3, c1, c2, c3, mn_b0, mn_b1, ha1, hb1, hc1, hx]
          exact K _ _ (by simp [mq_rx, mq_op, mq_b2, hx])
        | some z =>
          obtain ⟨hc1, rfl⟩ := hc
          simp [wpX_holdDespiteNull, wX_holdDespiteNull_56, wX_holdDespiteNull_85, wX_holdDespiteNull_86, wX_holdDespiteNull_102, wX_holdDespiteNull_104, nI_1, mi_2, i1, i2, i3, c1, c2, c3, mn_b0, mn_b1, ha1, hb1, hc1, hx]
          exact K _ _ (by simp [mq_rx, mq_op, mq_b2, hx])
      | some y =>
        obtain ⟨hb1, rfl⟩ := hb
        cases c with
        | none =>
          have hc1 : nu (p + 2) = 1 := hc
          simp [wpX_holdDespiteNull, wX_holdDespiteNull_56, wX_holdDespiteNull_85, wX_holdDespiteNull_86, wX_holdDespiteNull_102, wX_holdDespiteNull_104, nI_1, mi_2, i1, i2, i3, c1, c2, c3, mn_b0, mn_b1, ha1, hb1, hc1, hx]
          exact K _ _ (by simp [mq_rx, mq_op, mq_b2, hx])
        | some z =>
          obtain ⟨hc1, rfl⟩ := hc
          simp [wpX_holdDespiteNull, wX_holdDespiteNull_56, wX_holdDespiteNull_85, wX_holdDespiteNull_86, wX_holdDespiteNull_102, wX_holdDespiteNull_104, nI_1, mi_2, i1, i2, i3, c1, c2, c3, mn_b0, mn_b1, ha1, hb1, hc1, hx]
          exact K _ _ (by simp [mq_rx, mq_op, mq_b2, hx])
  · cases a with
    | none =>
      have ha1 : nu p = 1 := ha
      cases b with
      | none =>
        have hb1 : nu (p + 1) = 1 := hb
        cases c with
        | none =>
          have hc1 : nu (p + 2) = 1 := hc
          simp [wpX_holdDespiteNull, wX_holdDespiteNull_56, wX_holdDespiteNull_85, wX_holdDespiteNull_86, wX_holdDespiteNull_102, wX_holdDespiteNull_104, nI_1, mi_2, i1, i2, i3, c1, c2, c3, mn_b0, mn_b1, ha1, hb1, hc1, hx]
          exact K _ _ (by simp [mq_rx, mq_op, mq_b2, hx])
        | some z =>
          obtain ⟨hc1, rfl⟩ := hc
          simp [wpX_holdDespiteNull, wX_holdDespiteNull_56, wX_holdDespiteNull_85, wX_holdDespiteNull_86, wX_holdDespiteNull_102, wX_holdDespiteNull_104, nI_1, mi_2, i1, i2, i3, c1, c2, c3, mn_b0, mn_b1, ha1, hb1, hc1, hx]
          exact K _ _ (by simp [mq_rx, mq_op, mq_b2, hx])
      | some y =>
        obtain ⟨hb1, rfl⟩ := hb
        cases c with
        | none =>
          have hc1 : nu (p + 2) = 1 := hc
          simp [wpX_holdDespiteNull, wX_holdDespiteNull_56, wX_holdDespiteNull_85, wX_holdDespiteNull_86, wX_holdDespiteNull_102, wX_holdDespiteNull_104, nI_1, mi_2, i1, i2, i3, c1, c2, c3, mn_b0, mn_b1, ha1, hb1, hc1, hx]
          exact K _ _ (by simp [mq_rx, mq_op, mq_b2, hx])
        | some z =>
          obtain ⟨hc1, rfl⟩ := hc
          simp [wpX_holdDespiteNull, wX_holdDespiteNull_56, wX_holdDespiteNull_85, wX_holdDespiteNull_86, wX_holdDespiteNull_102, wX_holdDespiteNull_104, nI_1, mi_2, i1, i2, i3, c1, c2, c3, mn_b0, mn_b1, ha1, hb1, hc1, hx]
          exact K _ _ (by simp [mq_rx, mq_op, mq_b2, hx])
    | some x =>
      obtain ⟨ha1, rfl⟩ := ha
      cases b with
      | none =>
        have hb1 : nu (p + 1) = 1 := hb
        cases c with
        | none =>
          have hc1 : nu (p + 2) = 1 := hc
          simp [wpX_holdDespiteNull, wX_holdDespiteNull_56, wX_holdDespiteNull_85, wX_holdDespiteNull_86, wX_holdDespiteNull_102, wX_holdDespiteNull_104, nI_1, mi_2, i1, i2, i3, c1, c2, c3, mn_b0, mn_b1, ha1, hb1, hc1, hx]
          exact K _ _ (by simp [mq_rx, mq_op, mq_b2, hx])
        | some z =>
          obtain ⟨hc1, rfl⟩ := hc
          simp [wpX_holdDespiteNull, wX_holdDespiteNull_56, wX_holdDespiteNull_85, wX_holdDespiteNull_86, wX_holdDespiteNull_102, wX_holdDespiteNull_104, nI_1, mi_2, i1, i2, i3, c1, c2, c3, mn_b0, mn_b1, ha1, hb1, hc1, hx]
          exact K _ _ (by simp [mq_rx, mq_op, mq_b2, hx])
      | some y =>
        obtain ⟨hb1, rfl⟩ := hb
        cases c with
        | none =>
          have hc1 : nu (p + 2) = 1 := hc
          simp [wpX_holdDespiteNull, wX_holdDespiteNull_56, wX_holdDespiteNull_85, wX_holdDespiteNull_86, wX_holdDespiteNull_102, wX_holdDespiteNull_104, nI_1, mi_2, i1, i2, i3, c1, c2, c3, mn_b0, mn_b1, ha1, hb1, hc1, hx]
          exact K _ _ (by simp [mq_rx, mq_op, mq_b2, hx])
        | some z =>
          obtain ⟨hc1, rfl⟩ := hc
          simp [wpX_holdDespiteNull, wX_holdDespiteNull_56, wX_holdDespiteNull_85, wX_holdDespiteNull_86, wX_holdDespiteNull_102, wX_holdDespiteNull_104, nI_1, mi_2, i1, i2, i3, c1, c2, c3, mn_b0, mn_b1, ha1, hb1, hc1, hx]
          exact K _ _ (by simp [mq_rx, mq_op, mq_b2, hx])
end MQ11
