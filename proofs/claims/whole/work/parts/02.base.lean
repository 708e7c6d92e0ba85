/-! the relation: both states are the same pair of arrays, each list ascending and in range -/
/-- list l holds m numbers, from cell 64 l on -/
def rv_L (c : Nat → Int32) (l m : Nat) : Prop :=
  m ≤ 64 ∧ (∀ i, i < m → 0 ≤ (c (64 * l + i)).toInt ∧ (c (64 * l + i)).toInt ≤ 1000000) ∧
    (∀ i j, i < j → j < m → (c (64 * l + i)).toInt < (c (64 * l + j)).toInt)
def rv_ok (c n : Nat → Int32) : Prop := ∃ k : Nat → Nat, ∀ l, l < 2 → n l = nI (k l) ∧ rv_L c l (k l)
def i_Rel (k : Nat) (u : SX) (v : SY) : Prop := u = v ∧ rv_ok u.1 u.2
theorem i_up {k : Nat} {u : SX} {v : SY} (h : i_Rel k u v) : i_Rel (k + 4) u v := h
theorem i_vc0 : wpX_init (fun u => wpY_init (fun v => i_Rel 0 u v)) :=
  ⟨rfl, fun _ => 0, fun l _ => ⟨nI_0.symm, Nat.zero_le _, fun i h => absurd h (Nat.not_lt_zero i), fun i j _ h => absurd h (Nat.not_lt_zero j)⟩⟩
theorem rv_I {k : Nat} {u : SX} {v : SY} (h : i_Rel k u v) : ∃ c n : Nat → Int32, u = (c, n) ∧ v = (c, n) ∧ rv_ok c n := by
  obtain ⟨rfl, hok⟩ := h
  exact ⟨u.1, u.2, rfl, rfl, hok⟩
theorem rv_get {c n : Nat → Int32} (h : rv_ok c n) {l : Nat} (hl : l < 2) : ∃ m, n l = nI m ∧ rv_L c l m := by
  obtain ⟨k, hk⟩ := h
  exact ⟨k l, hk l hl⟩
theorem rv_Lc {c c' : Nat → Int32} {l m : Nat} (h : rv_L c l m) (e : ∀ i, i < m → c' (64 * l + i) = c (64 * l + i)) : rv_L c' l m := by
  obtain ⟨h1, h2, h3⟩ := h
  refine ⟨h1, fun i hi => ?_, fun i j hi hj => ?_⟩
  · rw [e i hi]; exact h2 i hi
  · rw [e i (by omega), e j hj]; exact h3 i j hi hj
theorem rv_put {c c' n : Nat → Int32} {l m : Nat} (h : rv_ok c n) (hl : l < 2) (e : ∀ q, (q < 64 * l ∨ 64 * l + 64 ≤ q) → c' q = c q) (h' : rv_L c' l m) : rv_ok c' (upd n l (nI m)) := by
  obtain ⟨k, hk⟩ := h
  refine ⟨fun q => if q = l then m else k q, fun q hq => ?_⟩
  dsimp only
  by_cases eq : q = l
  · subst eq
    rw [if_pos rfl]
    exact ⟨pk_us, h'⟩
  · rw [if_neg eq, pk_un eq]
    refine ⟨(hk q hq).1, rv_Lc (hk q hq).2 fun i hi => e _ ?_⟩
    have := (hk q hq).2.1
    omega
theorem rv_L0 (c : Nat → Int32) (l : Nat) : rv_L c l 0 := ⟨Nat.zero_le _, fun i h => absurd h (Nat.not_lt_zero i), fun i j _ h => absurd h (Nat.not_lt_zero j)⟩
/-! places -/
theorem rv_64 : (64 : Int32) = nI 64 := by decide
theorem rv_c {l : Nat} (hl : l < 2) : (nI l).toNatClampNeg = l := nI_clamp (by omega)
theorem rv_n {n : Nat → Int32} {l m : Nat} (hl : l < 2) (hn : n l = nI m) : n (nI l).toNatClampNeg = nI m := by rw [rv_c hl, hn]
theorem rv_v {l : Nat} (hl : l < 2) : vp_in (nI l) 2 := vp_in_nI hl (by decide)
theorem rv_x (l i : Nat) : nI l * 64 + nI i = nI (64 * l + i) := by
  rw [rv_64, pk_mul, nI_add, Nat.mul_comm]
theorem rv_y (l i : Nat) : 64 * nI l + nI i = nI (64 * l + i) := by
  rw [rv_64, pk_mul, nI_add]
theorem rv_s (a : Nat) : nI (a + 1) - 1 = nI a := nI_pred a
theorem rv_xp (l i : Nat) : (nI l * 64 + nI (i + 1)) - 1 = nI (64 * l + i) := by rw [rv_x, ← Nat.add_assoc, rv_s]
theorem rv_yp (l i : Nat) : (64 * nI l + nI (i + 1)) - 1 = nI (64 * l + i) := by rw [rv_y, ← Nat.add_assoc, rv_s]
theorem rv_xs (l i : Nat) : (nI l * 64 + nI i) + 1 = nI (64 * l + (i + 1)) := by rw [rv_x, nI_1, Nat.add_assoc]
theorem rv_xi {l i : Nat} (hl : l < 2) (hi : i < 64) : vp_in (nI l * 64 + nI i) 128 := by rw [rv_x]; exact vp_in_nI (by omega) (by decide)
theorem rv_yi {l i : Nat} (hl : l < 2) (hi : i < 64) : vp_in (64 * nI l + nI i) 128 := by rw [rv_y]; exact vp_in_nI (by omega) (by decide)
theorem rv_xc {l i : Nat} (hl : l < 2) (hi : i < 64) : (nI l * 64 + nI i).toNatClampNeg = 64 * l + i := by rw [rv_x]; exact nI_clamp (by omega)
theorem rv_yc {l i : Nat} (hl : l < 2) (hi : i < 64) : (64 * nI l + nI i).toNatClampNeg = 64 * l + i := by rw [rv_y]; exact nI_clamp (by omega)
theorem rv_xpi {l i : Nat} (hl : l < 2) (hi : i < 64) : vp_in ((nI l * 64 + nI (i + 1)) - 1) 128 := by rw [rv_xp]; exact vp_in_nI (by omega) (by decide)
theorem rv_ypi {l i : Nat} (hl : l < 2) (hi : i < 64) : vp_in ((64 * nI l + nI (i + 1)) - 1) 128 := by rw [rv_yp]; exact vp_in_nI (by omega) (by decide)
theorem rv_xpc {l i : Nat} (hl : l < 2) (hi : i < 64) : ((nI l * 64 + nI (i + 1)) - 1).toNatClampNeg = 64 * l + i := by rw [rv_xp]; exact nI_clamp (by omega)
theorem rv_ypc {l i : Nat} (hl : l < 2) (hi : i < 64) : ((64 * nI l + nI (i + 1)) - 1).toNatClampNeg = 64 * l + i := by rw [rv_yp]; exact nI_clamp (by omega)
theorem rv_xsi {l i : Nat} (hl : l < 2) (hi : i + 1 < 64) : vp_in ((nI l * 64 + nI i) + 1) 128 := by rw [rv_xs]; exact vp_in_nI (by omega) (by decide)
theorem rv_xsc {l i : Nat} (hl : l < 2) (hi : i + 1 < 64) : ((nI l * 64 + nI i) + 1).toNatClampNeg = 64 * l + (i + 1) := by rw [rv_xs]; exact nI_clamp (by omega)
/-! is it a list, is it a number -/
theorem rv_xl {l : Nat} (hl : l < 2) {post : Int32 → Prop} (hp : post 1) : wpX_isList post (nI l) :=
  br_f (nI_pos (by omega)) (br_f (nI_ge (b := 2) hl (by decide)) hp)
theorem rv_yl {l : Nat} (hl : l < 2) {post : Int32 → Prop} {c n : Nat → Int32} (hp : post 1) : wpY_isList post (c, n) (nI l) := by
  obtain rfl | rfl : l = 0 ∨ l = 1 := by omega
  · exact br_t nI_0 hp
  · exact br_f (by decide) (br_t (by decide) hp)
theorem rv_isl (v1 : Int32) : (∃ l, l < 2 ∧ v1 = nI l) ∨ ((∀ post : Int32 → Prop, post 0 → wpX_isList post v1) ∧ (∀ (post : Int32 → Prop) (c n : Nat → Int32), post 0 → wpY_isList post (c, n) v1)) := by
  rcases pk_ix v1 (n := 2) (by decide) with h | h | ⟨j, hj, e⟩
  · right
    refine ⟨fun post hp => br_t h hp, fun post c n hp => br_f (fun e => ?_) (br_f (fun e => ?_) hp)⟩
    · subst e; exact absurd h (by decide)
    · subst e; exact absurd h (by decide)
  · right
    refine ⟨fun post hp => br_c (fun _ => hp) (fun _ => br_t h hp), fun post c n hp => br_f (fun e => ?_) (br_f (fun e => ?_) hp)⟩
    · subst e; exact absurd h (by decide)
    · subst e; exact absurd h (by decide)
  · exact Or.inl ⟨j, hj, e⟩
theorem rv_isn (x : Int32) : ((0 ≤ x.toInt ∧ x.toInt ≤ 1000000) ∧ (∀ post : Int32 → Prop, post 1 → wpX_isNumber post x) ∧ (∀ (post : Int32 → Prop) (c n : Nat → Int32), post 1 → wpY_isNumber post (c, n) x)) ∨ ((∀ post : Int32 → Prop, post 0 → wpX_isNumber post x) ∧ (∀ (post : Int32 → Prop) (c n : Nat → Int32), post 0 → wpY_isNumber post (c, n) x)) := by
  by_cases h0 : x < 0
  · exact Or.inr ⟨fun post hp => br_t h0 hp, fun post c n hp => br_t h0 hp⟩
  · by_cases h1 : 1000000 < x
    · exact Or.inr ⟨fun post hp => br_f h0 (br_t h1 hp), fun post c n hp => br_f h0 (br_t h1 hp)⟩
    · refine Or.inl ⟨?_, fun post hp => br_f h0 (br_f h1 hp), fun post c n hp => br_f h0 (br_f h1 hp)⟩
      rw [Int32.lt_iff_toInt_lt, show (0 : Int32).toInt = 0 from by decide] at h0
      rw [Int32.lt_iff_toInt_lt, show (1000000 : Int32).toInt = 1000000 from by decide] at h1
      omega
