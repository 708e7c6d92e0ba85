section
/-! rows of kit/rows, pasted -/
theorem pk_us {f : Nat → Int32} {k : Nat} {x : Int32} : upd f k x k = x := if_pos rfl
theorem pk_un {f : Nat → Int32} {k j : Nat} {x : Int32} (h : j ≠ k) : upd f k x j = f j := if_neg h
theorem pk_sub {a b : Nat} (h : b ≤ a) : nI a - nI b = nI (a - b) := by
  obtain ⟨c, rfl⟩ : ∃ c, a = c + b := ⟨a - b, by omega⟩
  rw [← nI_add, Int32.add_sub_cancel, Nat.add_sub_cancel]
theorem pk_m1 (n : Nat) : nI (n + 1) + (-1) = nI n := by
  rw [← nI_1, Int32.add_assoc, show (1 : Int32) + (-1) = 0 from rfl, Int32.add_zero]
theorem pk_mul (a b : Nat) : nI a * nI b = nI (a * b) := (Int32.ofNat_mul a b).symm
theorem pk_div {a d : Nat} (ha : a < 2 ^ 31) (h0 : 0 < d) (hd : d < 2 ^ 31) : nI a / nI d = nI (a / d) := by
  apply Int32.toInt_inj.mp
  rw [lg_idiv_nonneg (by rw [nI_toInt ha]; omega) (by rw [nI_toInt hd]; omega), nI_toInt ha, nI_toInt hd, nI_toInt (Nat.lt_of_le_of_lt (Nat.div_le_self a d) ha)]
  first | rfl | exact (Int.natCast_ediv _ _).symm
theorem pk_ix (x : Int32) {n : Nat} (hn : n < 2 ^ 31) : x < 0 ∨ nI n ≤ x ∨ ∃ j : Nat, j < n ∧ x = nI j := by
  by_cases h : x < 0
  · exact Or.inl h
  · obtain ⟨j, hj, rfl⟩ := nI_of h
    by_cases h2 : j < n
    · exact Or.inr (Or.inr ⟨j, h2, rfl⟩)
    · exact Or.inr (Or.inl (nI_le (by omega) hj))
theorem pk_le {x y : Int32} {A B : Prop} (a b : Nat) (f : a ≤ b → A) (g : b < a → B) (hx : x = nI a := by rfl) (hy : y = nI b := by rfl) (ha : a < 2 ^ 31 := by omega) (hb : b < 2 ^ 31 := by omega) : (x ≤ y → A) ∧ (¬ x ≤ y → B) := by
  subst hx hy
  rw [nI_leI ha hb]
  exact ⟨f, fun z => g (by omega)⟩
theorem pk_lt {x y : Int32} {A B : Prop} (a b : Nat) (f : a < b → A) (g : b ≤ a → B) (hx : x = nI a := by rfl) (hy : y = nI b := by rfl) (ha : a < 2 ^ 31 := by omega) (hb : b < 2 ^ 31 := by omega) : (x < y → A) ∧ (¬ x < y → B) := by
  subst hx hy
  rw [nI_ltI ha hb]
  exact ⟨f, fun z => g (by omega)⟩
theorem pk_eq {x y : Int32} {A B : Prop} (a b : Nat) (f : a = b → A) (g : a ≠ b → B) (hx : x = nI a := by rfl) (hy : y = nI b := by rfl) (ha : a < 2 ^ 31 := by omega) (hb : b < 2 ^ 31 := by omega) : (x = y → A) ∧ (¬ x = y → B) := by
  subst hx hy
  rw [nI_eq ha hb]
  exact ⟨f, g⟩
theorem pk_in {x : Int32} (n N : Nat) (h : n < N) (hx : x = nI n := by rfl) (hN : N < 2 ^ 31 := by omega) : vp_in x N := by
  subst hx
  exact vp_in_nI h hN
theorem pk_cl {x : Int32} (n : Nat) (hx : x = nI n := by rfl) (h : n < 2 ^ 31 := by omega) : x.toNatClampNeg = n := by
  subst hx
  exact nI_clamp h
theorem pk_tn {n : Nat} (h : n < 2 ^ 32) : (nI n).toBitVec.toNat = n := Nat.mod_eq_of_lt h
theorem pk_shl (a s : Int32) (k : Nat) (hs : (s.toBitVec.smod 32).toNat = k) : (a <<< s).toBitVec.toNat = a.toBitVec.toNat * 2 ^ k % 2 ^ 32 := by
  show (a.toBitVec <<< (s.toBitVec.smod 32).toNat).toNat = _
  rw [hs, BitVec.toNat_shiftLeft, Nat.shiftLeft_eq]
theorem pk_shlN {n : Nat} (s : Int32) (k : Nat) (hs : (s.toBitVec.smod 32).toNat = k) (h : n * 2 ^ k < 2 ^ 32) : nI n <<< s = nI (n * 2 ^ k) := by
  apply Int32.toBitVec_inj.mp
  apply BitVec.eq_of_toNat_eq
  have hn : n < 2 ^ 32 := Nat.lt_of_le_of_lt (Nat.le_mul_of_pos_right n (Nat.two_pow_pos k)) h
  rw [pk_shl _ _ k hs, pk_tn hn, pk_tn h, Nat.mod_eq_of_lt h]
theorem pk_shr (a s : Int32) (k : Nat) (hs : (s.toBitVec.smod 32).toNat = k) : (a >>> s).toInt = a.toInt >>> k := by
  show (a.toBitVec.sshiftRight (s.toBitVec.smod 32).toNat).toInt = _
  rw [hs, BitVec.toInt_sshiftRight]
  rfl
theorem pk_shrN {n : Nat} (h : n < 2 ^ 31) (s : Int32) (k : Nat) (hs : (s.toBitVec.smod 32).toNat = k) : nI n >>> s = nI (n / 2 ^ k) := by
  apply Int32.toInt_inj.mp
  have h2 : n / 2 ^ k ≤ n := Nat.div_le_self _ _
  rw [pk_shr _ _ k hs, nI_toInt h, nI_toInt (by omega), Int.shiftRight_eq_div_pow]
  rfl
theorem pk_least (P : Nat → Prop) (h : ∃ k, P k) : ∃ k, P k ∧ ∀ j, j < k → ¬ P j := by
  obtain ⟨k, hk⟩ := h
  induction k using Nat.strongRecOn with
  | ind k ih =>
    by_cases e : ∃ j, j < k ∧ P j
    · obtain ⟨j, hj, pj⟩ := e
      exact ih j hj pj
    · exact ⟨k, hk, fun j hj pj => e ⟨j, hj, pj⟩⟩
theorem s_l : ∀ n, n < 32 → ((nI n &&& 31).toBitVec.smod 32).toNat = n := by decide +kernel
end
section
/-! the relation: both states are the same pair of arrays, each list ascending and in range -/
/-- list l holds m numbers, from cell 64 l on -/
def rv_L (c : Nat → Int32) (l m : Nat) : Prop :=
  m ≤ 64 ∧ (∀ i, i < m → 0 ≤ (c (64 * l + i)).toInt ∧ (c (64 * l + i)).toInt ≤ 1000000) ∧
    (∀ i j, i < j → j < m → (c (64 * l + i)).toInt < (c (64 * l + j)).toInt)
def rv_ok (c n : Nat → Int32) : Prop := ∃ k : Nat → Nat, ∀ l, l < 2 → n l = nI (k l) ∧ rv_L c l (k l)
def i_Rel (k : Nat) (u : SX) (v : SY) : Prop := u = v ∧ rv_ok u.1 u.2
theorem i_up {k : Nat} {u : SX} {v : SY} (h : i_Rel k u v) : i_Rel (k + 4) u v := h
theorem i_vc0 : wpX_init (fun u => wpY_init (fun v => i_Rel 0 u v)) :=
  ⟨rfl, fun _ => 0, fun l _ => ⟨nI_0.symm, Nat.zero_le _, fun i h => absurd h (Nat.not_lt_zero i), fun i j _ h => absurd h (Nat.not_lt_zero j)⟩⟩
theorem rv_I {k : Nat} {u : SX} {v : SY} (h : i_Rel k u v) : ∃ c n : Nat → Int32, u = (c, n) ∧ v = (c, n) ∧ rv_ok c n := by
  obtain ⟨rfl, hok⟩ := h
  exact ⟨u.1, u.2, rfl, rfl, hok⟩
theorem rv_get {c n : Nat → Int32} (h : rv_ok c n) {l : Nat} (hl : l < 2) : ∃ m, n l = nI m ∧ rv_L c l m := by
  obtain ⟨k, hk⟩ := h
  exact ⟨k l, hk l hl⟩
theorem rv_Lc {c c' : Nat → Int32} {l m : Nat} (h : rv_L c l m) (e : ∀ i, i < m → c' (64 * l + i) = c (64 * l + i)) : rv_L c' l m := by
  obtain ⟨h1, h2, h3⟩ := h
  refine ⟨h1, fun i hi => ?_, fun i j hi hj => ?_⟩
  · rw [e i hi]; exact h2 i hi
  · rw [e i (by omega), e j hj]; exact h3 i j hi hj
theorem rv_put {c c' n : Nat → Int32} {l m : Nat} (h : rv_ok c n) (hl : l < 2) (e : ∀ q, (q < 64 * l ∨ 64 * l + 64 ≤ q) → c' q = c q) (h' : rv_L c' l m) : rv_ok c' (upd n l (nI m)) := by
  obtain ⟨k, hk⟩ := h
  refine ⟨fun q => if q = l then m else k q, fun q hq => ?_⟩
  dsimp only
  by_cases eq : q = l
  · subst eq
    rw [if_pos rfl]
    exact ⟨pk_us, h'⟩
  · rw [if_neg eq, pk_un eq]
    refine ⟨(hk q hq).1, rv_Lc (hk q hq).2 fun i hi => e _ ?_⟩
    have := (hk q hq).2.1
    omega
theorem rv_L0 (c : Nat → Int32) (l : Nat) : rv_L c l 0 := ⟨Nat.zero_le _, fun i h => absurd h (Nat.not_lt_zero i), fun i j _ h => absurd h (Nat.not_lt_zero j)⟩
/-! places -/
theorem rv_64 : (64 : Int32) = nI 64 := by decide
theorem rv_c {l : Nat} (hl : l < 2) : (nI l).toNatClampNeg = l := nI_clamp (by omega)
theorem rv_n {n : Nat → Int32} {l m : Nat} (hl : l < 2) (hn : n l = nI m) : n (nI l).toNatClampNeg = nI m := by rw [rv_c hl, hn]
theorem rv_v {l : Nat} (hl : l < 2) : vp_in (nI l) 2 := vp_in_nI hl (by decide)
theorem rv_x (l i : Nat) : nI l * 64 + nI i = nI (64 * l + i) := by
  rw [rv_64, pk_mul, nI_add, Nat.mul_comm]
theorem rv_y (l i : Nat) : 64 * nI l + nI i = nI (64 * l + i) := by
  rw [rv_64, pk_mul, nI_add]
theorem rv_s (a : Nat) : nI (a + 1) - 1 = nI a := nI_pred a
theorem rv_xp (l i : Nat) : (nI l * 64 + nI (i + 1)) - 1 = nI (64 * l + i) := by rw [rv_x, ← Nat.add_assoc, rv_s]
theorem rv_yp (l i : Nat) : (64 * nI l + nI (i + 1)) - 1 = nI (64 * l + i) := by rw [rv_y, ← Nat.add_assoc, rv_s]
theorem rv_xs (l i : Nat) : (nI l * 64 + nI i) + 1 = nI (64 * l + (i + 1)) := by rw [rv_x, nI_1, Nat.add_assoc]
theorem rv_xi {l i : Nat} (hl : l < 2) (hi : i < 64) : vp_in (nI l * 64 + nI i) 128 := by rw [rv_x]; exact vp_in_nI (by omega) (by decide)
theorem rv_yi {l i : Nat} (hl : l < 2) (hi : i < 64) : vp_in (64 * nI l + nI i) 128 := by rw [rv_y]; exact vp_in_nI (by omega) (by decide)
theorem rv_xc {l i : Nat} (hl : l < 2) (hi : i < 64) : (nI l * 64 + nI i).toNatClampNeg = 64 * l + i := by rw [rv_x]; exact nI_clamp (by omega)
theorem rv_yc {l i : Nat} (hl : l < 2) (hi : i < 64) : (64 * nI l + nI i).toNatClampNeg = 64 * l + i := by rw [rv_y]; exact nI_clamp (by omega)
theorem rv_xpi {l i : Nat} (hl : l < 2) (hi : i < 64) : vp_in ((nI l * 64 + nI (i + 1)) - 1) 128 := by rw [rv_xp]; exact vp_in_nI (by omega) (by decide)
theorem rv_ypi {l i : Nat} (hl : l < 2) (hi : i < 64) : vp_in ((64 * nI l + nI (i + 1)) - 1) 128 := by rw [rv_yp]; exact vp_in_nI (by omega) (by decide)
theorem rv_xpc {l i : Nat} (hl : l < 2) (hi : i < 64) : ((nI l * 64 + nI (i + 1)) - 1).toNatClampNeg = 64 * l + i := by rw [rv_xp]; exact nI_clamp (by omega)
theorem rv_ypc {l i : Nat} (hl : l < 2) (hi : i < 64) : ((64 * nI l + nI (i + 1)) - 1).toNatClampNeg = 64 * l + i := by rw [rv_yp]; exact nI_clamp (by omega)
theorem rv_xsi {l i : Nat} (hl : l < 2) (hi : i + 1 < 64) : vp_in ((nI l * 64 + nI i) + 1) 128 := by rw [rv_xs]; exact vp_in_nI (by omega) (by decide)
theorem rv_xsc {l i : Nat} (hl : l < 2) (hi : i + 1 < 64) : ((nI l * 64 + nI i) + 1).toNatClampNeg = 64 * l + (i + 1) := by rw [rv_xs]; exact nI_clamp (by omega)
/-! is it a list, is it a number -/
theorem rv_xl {l : Nat} (hl : l < 2) {post : Int32 → Prop} (hp : post 1) : wpX_isList post (nI l) :=
  br_f (nI_pos (by omega)) (br_f (nI_ge (b := 2) hl (by decide)) hp)
theorem rv_yl {l : Nat} (hl : l < 2) {post : Int32 → Prop} {c n : Nat → Int32} (hp : post 1) : wpY_isList post (c, n) (nI l) := by
  obtain rfl | rfl : l = 0 ∨ l = 1 := by omega
  · exact br_t nI_0 hp
  · exact br_f (by decide) (br_t (by decide) hp)
theorem rv_isl (v1 : Int32) : (∃ l, l < 2 ∧ v1 = nI l) ∨ ((∀ post : Int32 → Prop, post 0 → wpX_isList post v1) ∧ (∀ (post : Int32 → Prop) (c n : Nat → Int32), post 0 → wpY_isList post (c, n) v1)) := by
  rcases pk_ix v1 (n := 2) (by decide) with h | h | ⟨j, hj, e⟩
  · right
    refine ⟨fun post hp => br_t h hp, fun post c n hp => br_f (fun e => ?_) (br_f (fun e => ?_) hp)⟩
    · subst e; exact absurd h (by decide)
    · subst e; exact absurd h (by decide)
  · right
    refine ⟨fun post hp => br_c (fun _ => hp) (fun _ => br_t h hp), fun post c n hp => br_f (fun e => ?_) (br_f (fun e => ?_) hp)⟩
    · subst e; exact absurd h (by decide)
    · subst e; exact absurd h (by decide)
  · exact Or.inl ⟨j, hj, e⟩
theorem rv_isn (x : Int32) : ((0 ≤ x.toInt ∧ x.toInt ≤ 1000000) ∧ (∀ post : Int32 → Prop, post 1 → wpX_isNumber post x) ∧ (∀ (post : Int32 → Prop) (c n : Nat → Int32), post 1 → wpY_isNumber post (c, n) x)) ∨ ((∀ post : Int32 → Prop, post 0 → wpX_isNumber post x) ∧ (∀ (post : Int32 → Prop) (c n : Nat → Int32), post 0 → wpY_isNumber post (c, n) x)) := by
  by_cases h0 : x < 0
  · exact Or.inr ⟨fun post hp => br_t h0 hp, fun post c n hp => br_t h0 hp⟩
  · by_cases h1 : 1000000 < x
    · exact Or.inr ⟨fun post hp => br_f h0 (br_t h1 hp), fun post c n hp => br_f h0 (br_t h1 hp)⟩
    · refine Or.inl ⟨?_, fun post hp => br_f h0 (br_f h1 hp), fun post c n hp => br_f h0 (br_f h1 hp)⟩
      rw [Int32.lt_iff_toInt_lt, show (0 : Int32).toInt = 0 from by decide] at h0
      rw [Int32.lt_iff_toInt_lt, show (1000000 : Int32).toInt = 1000000 from by decide] at h1
      omega
end
section
/-! the scans of one list: countBelow, isAtPlace, contains; has, seek -/
theorem rv_cbL {c n : Nat → Int32} {l m : Nat} (x : Int32) (hl : l < 2) (hn : n l = nI m) (hm : m ≤ 64) : ∀ d j, j + d = m → (∀ i, i < j → ¬ x ≤ c (64 * l + i)) → ∃ r, r ≤ m ∧ (∀ i, i < r → ¬ x ≤ c (64 * l + i)) ∧ (r < m → x ≤ c (64 * l + r)) ∧ ∀ post : Int32 → Prop, post (nI r) → wX_countBelow_2 post (nI l) x c n (d + 1) (nI j) := by
  intro d
  induction d with
  | zero =>
    intro j hj h
    exact ⟨j, by omega, h, fun z => absurd z (by omega), fun post hp => ⟨rv_v hl, pk_le m j (fun _ => hp) (fun z => absurd z (by omega)) (rv_n hl hn)⟩⟩
  | succ d ih =>
    intro j hj h
    have h6 : j < 64 := by omega
    by_cases hx : x ≤ c (64 * l + j)
    · exact ⟨j, by omega, h, fun _ => hx, fun post hp => ⟨rv_v hl, pk_le m j (fun _ => hp) (fun _ => ⟨rv_xi hl h6, br_t (by rw [rv_xc hl h6]; exact hx) hp⟩) (rv_n hl hn)⟩⟩
    · obtain ⟨r, h1, h2, h3, h4⟩ := ih (j + 1) (by omega) (lt_s (p := fun i => ¬ x ≤ c (64 * l + i)) h hx)
      exact ⟨r, h1, h2, h3, fun post hp => ⟨rv_v hl, pk_le m j (fun z => absurd z (by omega)) (fun _ => ⟨rv_xi hl h6, br_f (by rw [rv_xc hl h6]; exact hx) (nm_r (nI_1 j) (h4 post hp))⟩) (rv_n hl hn)⟩⟩
theorem rv_cb {c n : Nat → Int32} {l m : Nat} (x : Int32) (hl : l < 2) (hn : n l = nI m) (hm : m ≤ 64) : ∃ r, r ≤ m ∧ (∀ i, i < r → ¬ x ≤ c (64 * l + i)) ∧ (r < m → x ≤ c (64 * l + r)) ∧ ∀ post : Int32 → Prop, post (nI r) → wpX_countBelow post (c, n) (nI l) x := by
  obtain ⟨r, h1, h2, h3, h4⟩ := rv_cbL (c := c) x hl hn hm m 0 (Nat.zero_add m) (fun i h => absurd h (Nat.not_lt_zero i))
  exact ⟨r, h1, h2, h3, fun post hp => ⟨m + 1, h4 post hp⟩⟩
theorem rv_ap1 {c n : Nat → Int32} {l m r : Nat} {x : Int32} {post : Int32 → Prop} (hl : l < 2) (hn : n l = nI m) (hm : m ≤ 64) (hr : r < m) (e : c (64 * l + r) = x) (hp : post 1) : wpX_isAtPlace post (c, n) (nI l) (nI r) x :=
  ⟨rv_v hl, pk_le m r (fun z => absurd z (by omega)) (fun _ => ⟨rv_xi hl (by omega), br_t (by rw [rv_xc hl (by omega)]; exact e) hp⟩) (rv_n hl hn)⟩
theorem rv_ap0 {c n : Nat → Int32} {l m r : Nat} {x : Int32} {post : Int32 → Prop} (hl : l < 2) (hn : n l = nI m) (hm : m ≤ 64) (hr : r ≤ m) (e : r < m → ¬ c (64 * l + r) = x) (hp : post 0) : wpX_isAtPlace post (c, n) (nI l) (nI r) x :=
  ⟨rv_v hl, pk_le m r (fun _ => hp) (fun z => ⟨rv_xi hl (by omega), br_f (by rw [rv_xc hl (by omega)]; exact e z) hp⟩) (rv_n hl hn)⟩
/-! has, seek -/
theorem rv_hL1 {c n : Nat → Int32} {l m : Nat} {x : Int32} {post : Int32 → Prop} (hl : l < 2) (hn : n l = nI m) (hm : m ≤ 64) (hp : post 1) : ∀ d j, j + d = m → (∃ i, j ≤ i ∧ i < m ∧ c (64 * l + i) = x) → wY_has_12 post (nI l) x c n (d + 1) (nI j) := by
  intro d
  induction d with
  | zero =>
    rintro j hj ⟨i, h1, h2, h3⟩
    omega
  | succ d ih =>
    rintro j hj ⟨i, h1, h2, h3⟩
    have h6 : j < 64 := by omega
    refine ⟨rv_v hl, pk_le m j (fun z => absurd z (by omega)) (fun _ => ⟨rv_yi hl h6, ?_⟩) (rv_n hl hn)⟩
    rw [rv_yc hl h6]
    refine br_c (fun _ => hp) (fun hx => nm_r (nI_1 j) (ih (j + 1) (by omega) ⟨i, ?_, h2, h3⟩))
    have : i ≠ j := fun e => hx (e ▸ h3)
    omega
theorem rv_hL0 {c n : Nat → Int32} {l m : Nat} {x : Int32} {post : Int32 → Prop} (hl : l < 2) (hn : n l = nI m) (hm : m ≤ 64) (h : ∀ i, i < m → ¬ c (64 * l + i) = x) (hp : post 0) : ∀ d j, j + d = m → wY_has_12 post (nI l) x c n (d + 1) (nI j) := by
  intro d
  induction d with
  | zero =>
    intro j hj
    exact ⟨rv_v hl, pk_le m j (fun _ => hp) (fun z => absurd z (by omega)) (rv_n hl hn)⟩
  | succ d ih =>
    intro j hj
    have h6 : j < 64 := by omega
    exact ⟨rv_v hl, pk_le m j (fun z => absurd z (by omega)) (fun _ => ⟨rv_yi hl h6, br_f (by rw [rv_yc hl h6]; exact h j (by omega)) (nm_r (nI_1 j) (ih (j + 1) (by omega)))⟩) (rv_n hl hn)⟩
theorem rv_h1 {c n : Nat → Int32} {l m r : Nat} {x : Int32} {post : Int32 → Prop} (hl : l < 2) (hn : n l = nI m) (hm : m ≤ 64) (hr : r < m) (e : c (64 * l + r) = x) (hp : post 1) : wpY_has post (c, n) (nI l) x := by
  unfold wpY_has
  dsimp only
  exact rv_yl hl (br_f (by decide) ⟨m + 1, rv_hL1 hl hn hm hp m 0 (Nat.zero_add m) ⟨r, Nat.zero_le _, hr, e⟩⟩)
theorem rv_h0 {c n : Nat → Int32} {l m : Nat} {x : Int32} {post : Int32 → Prop} (hl : l < 2) (hn : n l = nI m) (hm : m ≤ 64) (h : ∀ i, i < m → ¬ c (64 * l + i) = x) (hp : post 0) : wpY_has post (c, n) (nI l) x := by
  unfold wpY_has
  dsimp only
  exact rv_yl hl (br_f (by decide) ⟨m + 1, rv_hL0 hl hn hm h hp m 0 (Nat.zero_add m)⟩)
/-- not at the place of the first great enough: nowhere -/
theorem rv_no {c : Nat → Int32} {l m r : Nat} {x : Int32} (hL : rv_L c l m) (h2 : ∀ i, i < r → ¬ x ≤ c (64 * l + i)) (h3 : r < m → x ≤ c (64 * l + r)) (h : r < m → ¬ c (64 * l + r) = x) : ∀ i, i < m → ¬ c (64 * l + i) = x := by
  intro i hi e
  by_cases h4 : i < r
  · exact h2 i h4 (e ▸ Int32.le_refl _)
  · by_cases h5 : i = r
    · subst h5; exact h hi e
    · have a := hL.2.2 r i (by omega) hi
      have b := h3 (by omega)
      rw [Int32.le_iff_toInt_le] at b
      rw [e] at a
      omega
theorem rv_n1 : narrow .boolean (.int 1) = .int 1 := lw_bz_n 1
theorem rv_n0 : narrow .boolean (.int 0) = .int 0 := lw_bz_n 0
theorem rv_mem {c n : Nat → Int32} {l m : Nat} (x : Int32) (hl : l < 2) (hn : n l = nI m) (hL : rv_L c l m) : ∃ b : Int32, (b = 0 ∨ b = 1) ∧ (∀ post : Int32 → Prop, post b → wpX_contains post (c, n) (nI l) x) ∧ (∀ post : Int32 → Prop, post b → wpY_has post (c, n) (nI l) x) := by
  obtain ⟨r, h1, h2, h3, h4⟩ := rv_cb (c := c) x hl hn hL.1
  by_cases h : r < m ∧ c (64 * l + r) = x
  · refine ⟨1, Or.inr rfl, fun post hp => ?_, fun post hp => rv_h1 hl hn hL.1 h.1 h.2 hp⟩
    unfold wpX_contains
    dsimp only
    exact h4 _ (rv_ap1 hl hn hL.1 h.1 h.2 ⟨rv_n1, hp⟩)
  · have h' : r < m → ¬ c (64 * l + r) = x := fun a b => h ⟨a, b⟩
    refine ⟨0, Or.inl rfl, fun post hp => ?_, fun post hp => rv_h0 hl hn hL.1 (rv_no hL h2 h3 h') hp⟩
    unfold wpX_contains
    dsimp only
    exact h4 _ (rv_ap0 hl hn hL.1 h1 h' ⟨rv_n0, hp⟩)
theorem rv_skL {c n : Nat → Int32} {l m r : Nat} {x : Int32} {post : Int32 → Prop} (hl : l < 2) (hn : n l = nI m) (hm : m ≤ 64) (hr : r ≤ m) (h2 : ∀ i, i < r → ¬ x ≤ c (64 * l + i)) (h3 : r < m → x ≤ c (64 * l + r)) (p1 : r < m → post (nI r)) (p2 : m ≤ r → post (-4)) : ∀ d j, j + d = r → wY_seek_12 post (nI l) x c n (d + 1) (nI j) := by
  intro d
  induction d with
  | zero =>
    intro j hj
    obtain rfl : j = r := hj
    exact ⟨rv_v hl, pk_le m j (fun z => p2 z) (fun z => ⟨rv_yi hl (by omega), br_f (by rw [rv_yc hl (by omega)]; exact Int32.not_lt.mpr (h3 z)) (p1 z)⟩) (rv_n hl hn)⟩
  | succ d ih =>
    intro j hj
    have h6 : j < 64 := by omega
    exact ⟨rv_v hl, pk_le m j (fun z => absurd z (by omega)) (fun _ => ⟨rv_yi hl h6, br_t (by rw [rv_yc hl h6]; exact Int32.not_le.mp (h2 j (by omega))) (nm_r (nI_1 j) (ih (j + 1) (by omega)))⟩) (rv_n hl hn)⟩
theorem rv_sk {c n : Nat → Int32} {l m r : Nat} {x : Int32} {post : Int32 → Prop} (hl : l < 2) (hn : n l = nI m) (hm : m ≤ 64) (hr : r ≤ m) (h2 : ∀ i, i < r → ¬ x ≤ c (64 * l + i)) (h3 : r < m → x ≤ c (64 * l + r)) (p1 : r < m → post (nI r)) (p2 : m ≤ r → post (-4)) : wpY_seek post (c, n) (nI l) x := by
  unfold wpY_seek
  dsimp only
  exact rv_yl hl (br_f (by decide) ⟨r + 1, rv_skL hl hn hm hr h2 h3 p1 p2 r 0 (Nat.zero_add r)⟩)
end
section
/-! the number before a place, the last number, putting one at the end; append, run -/
def rv_b (c : Nat → Int32) (l : Nat) : Nat → Int32
  | 0 => -1
  | p + 1 => c (64 * l + p)
theorem rv_xb {c n : Nat → Int32} {l p : Nat} {post : Int32 → Prop} (hl : l < 2) (hp : p ≤ 64) (h : post (rv_b c l p)) : wpX_numberBefore post (c, n) (nI l) (nI p) := by
  cases p with
  | zero => exact br_t (by decide) h
  | succ p =>
    refine br_f (nI_nle (by omega) (by omega)) ⟨rv_xpi hl (by omega), ?_⟩
    rw [rv_xpc hl (by omega)]
    exact h
theorem rv_ln {c n : Nat → Int32} {l m : Nat} {post : Int32 → Prop} (hl : l < 2) (hn : n l = nI m) (hm : m ≤ 64) (h : post (rv_b c l m)) : wpX_lastNumber post (c, n) (nI l) := by
  refine ⟨rv_v hl, ?_⟩
  rw [rv_n hl hn]
  exact rv_xb hl hm h
theorem rv_lo {c n : Nat → Int32} {l m : Nat} {post : Int32 → Prop} (hl : l < 2) (hn : n l = nI m) (hm : m ≤ 64) (h : post (rv_b c l m)) : wpY_lastOf post (c, n) (nI l) := by
  refine ⟨rv_v hl, ?_⟩
  rw [rv_n hl hn]
  cases m with
  | zero => exact br_t nI_0 h
  | succ p =>
    refine br_f (nI_ne0 (by omega) (by omega)) ⟨rv_v hl, rv_ypi hl (by omega), ?_⟩
    rw [rv_ypc hl (by omega)]
    exact h
theorem rv_xput {c n : Nat → Int32} {l m : Nat} {x : Int32} {post : SX → Prop} (hl : l < 2) (hn : n l = nI m) (hm : m < 64) (h : post (upd c (64 * l + m) x, upd n l (nI (m + 1)))) : wpX_putLast post (c, n) (nI l) x := by
  unfold wpX_putLast
  dsimp only
  rw [rv_n hl hn, rv_xc hl hm, rv_c hl, nI_1 m]
  exact ⟨rv_v hl, rv_xi hl hm, nm_e ⟨rv_v hl, rv_v hl, nm_e h⟩⟩
theorem rv_yput {c n : Nat → Int32} {l m : Nat} {x : Int32} {post : SY → Prop} (hl : l < 2) (hn : n l = nI m) (hm : m < 64) (h : post (upd c (64 * l + m) x, upd n l (nI (m + 1)))) : wpY_put post (c, n) (nI l) x := by
  unfold wpY_put
  dsimp only
  rw [rv_n hl hn, rv_yc hl hm, rv_c hl, nI_1 m]
  exact ⟨rv_v hl, rv_yi hl hm, nm_e ⟨rv_v hl, rv_v hl, nm_e h⟩⟩
theorem rv_b_lt {c : Nat → Int32} {l m : Nat} {x : Int32} (hL : rv_L c l m) (h : (rv_b c l m).toInt < x.toInt) {i : Nat} (hi : i < m) : (c (64 * l + i)).toInt < x.toInt := by
  cases m with
  | zero => omega
  | succ p =>
    have h : (c (64 * l + p)).toInt < x.toInt := h
    by_cases e : i = p
    · subst e; exact h
    · have := hL.2.2 i p (by omega) (by omega)
      omega
theorem rv_Lput {c : Nat → Int32} {l m : Nat} {x : Int32} (hL : rv_L c l m) (hm : m < 64) (hx : 0 ≤ x.toInt ∧ x.toInt ≤ 1000000) (h : (rv_b c l m).toInt < x.toInt) : rv_L (upd c (64 * l + m) x) l (m + 1) := by
  refine ⟨by omega, fun i hi => ?_, fun i j hi hj => ?_⟩
  · by_cases e : i = m
    · subst e; rw [pk_us]; exact hx
    · rw [pk_un (by omega)]; exact hL.2.1 i (by omega)
  · rw [pk_un (j := 64 * l + i) (by omega)]
    by_cases e : j = m
    · subst e; rw [pk_us]; exact rv_b_lt hL h (by omega)
    · rw [pk_un (by omega)]; exact hL.2.2 i j hi (by omega)
theorem rv_okput {c n : Nat → Int32} {l m : Nat} {x : Int32} (hok : rv_ok c n) (hl : l < 2) (hL : rv_L c l m) (hm : m < 64) (hx : 0 ≤ x.toInt ∧ x.toInt ≤ 1000000) (h : (rv_b c l m).toInt < x.toInt) : rv_ok (upd c (64 * l + m) x) (upd n l (nI (m + 1))) :=
  rv_put hok hl (fun q hq => pk_un (by omega)) (rv_Lput hL hm hx h)
theorem rv_10 : ¬ (1 : Int32) = 0 := by decide
theorem i_vc_append {k : Nat} {u : SX} {v : SY} (I : i_Rel k u v) (hk : k + 4 ≤ 2048) (v1 : Int32) (v2 : Int32) : wpX_append (fun r u' => wpY_append (fun r' v' => r' = r ∧ i_Rel (k + 4) u' v') v v1 v2) u v1 v2 := by
  obtain ⟨c, n, rfl, rfl, hok⟩ := rv_I I
  unfold wpX_append wpY_append
  dsimp only
  rcases rv_isl v1 with ⟨l, hl, rfl⟩ | ⟨hX, hY⟩
  · rcases rv_isn v2 with ⟨hr, hX, hY⟩ | ⟨hX, hY⟩
    · obtain ⟨m, hn, hL⟩ := rv_get hok hl
      refine rv_xl hl (br_f rv_10 (hX _ (br_f rv_10 (rv_ln hl hn hL.1 ?_))))
      by_cases h : rv_b c l m < v2
      · by_cases h6 : m < 64
        · refine br_t h ⟨rv_v hl, br_t (by rw [rv_n hl hn]; exact nI_lt (b := 64) h6 (by decide)) (rv_xput hl hn h6 ⟨rv_v hl, ?_⟩)⟩
          refine rv_yl hl (br_f rv_10 (hY _ c n (br_f rv_10 (rv_lo hl hn hL.1 (br_t h ⟨rv_v hl, ?_⟩)))))
          refine br_f (by rw [rv_n hl hn, rv_64, nI_eq (by omega) (by omega)]; omega) (rv_yput hl hn h6 ⟨rv_v hl, rfl, rfl, ?_⟩)
          exact rv_okput hok hl hL h6 hr (Int32.lt_iff_toInt_lt.mp h)
        · have e6 : m = 64 := by have := hL.1; omega
          subst e6
          refine br_t h ⟨rv_v hl, br_f (by rw [rv_n hl hn]; decide) ?_⟩
          refine rv_yl hl (br_f rv_10 (hY _ c n (br_f rv_10 (rv_lo hl hn hL.1 (br_t h ⟨rv_v hl, ?_⟩)))))
          exact br_t (by rw [rv_n hl hn]; decide) ⟨rfl, rfl, hok⟩
      · refine br_f h (rv_yl hl (br_f rv_10 (hY _ c n (br_f rv_10 (rv_lo hl hn hL.1 (br_f h ⟨rfl, rfl, hok⟩))))))
    · exact rv_xl hl (br_f rv_10 (hX _ (br_t rfl (rv_yl hl (br_f rv_10 (hY _ c n (br_t rfl ⟨rfl, rfl, hok⟩)))))))
  · exact hX _ (br_t rfl (hY _ c n (br_t rfl ⟨rfl, rfl, hok⟩)))
/-! run -/
theorem rv_t {La : Int32} {j s : Nat} (h1 : -1 ≤ La.toInt) (h2 : La.toInt ≤ 1000000) (hj : j * s ≤ 64000) : (La + nI j * nI s).toInt = La.toInt + (j * s : Nat) := by
  rw [pk_mul, Int32.toInt_add, nI_toInt (by omega)]
  exact Int.bmod_eq_of_le (by omega) (by omega)
theorem rv_b_in {c : Nat → Int32} {l m : Nat} (hL : rv_L c l m) : -1 ≤ (rv_b c l m).toInt ∧ (rv_b c l m).toInt ≤ 1000000 := by
  cases m with
  | zero =>
    show -1 ≤ (-1 : Int32).toInt ∧ (-1 : Int32).toInt ≤ 1000000
    decide
  | succ p =>
    have := hL.2.1 p (by omega)
    show -1 ≤ (c (64 * l + p)).toInt ∧ (c (64 * l + p)).toInt ≤ 1000000
    omega
theorem rv_runL {l N s : Nat} {La : Int32} (hl : l < 2) (hN : N ≤ 64) (hs : 1 ≤ s) (hs2 : s ≤ 1000) (hLa : -1 ≤ La.toInt ∧ La.toInt ≤ 1000000) (hNs : N * s ≤ 64000) (hb : La.toInt + (N * s : Nat) ≤ 1000000) : ∀ d j (c n : Nat → Int32) m, j + d = N → rv_ok c n → n l = nI m → rv_L c l m → m + d ≤ 64 → rv_b c l m = La + nI j * nI s → ∃ c' n' : Nat → Int32, rv_ok c' n' ∧ (∀ post : Int32 → SX → Prop, post (n' (nI l).toNatClampNeg) (c', n') → wX_run_70 post (nI l) (nI N) (nI s) La (d + 1) (nI (j + 1)) c n) ∧ (∀ post : Int32 → SY → Prop, post (n' (nI l).toNatClampNeg) (c', n') → wY_run_67 post (nI l) (nI N) (nI s) (d + 1) (nI j) c n) := by
  intro d
  induction d with
  | zero =>
    intro j c n m hj hok hn hL hm e
    exact ⟨c, n, hok, fun post hp => br_t (nI_lt (by omega) (by omega)) ⟨rv_v hl, hp⟩, fun post hp => br_t (nI_le (by omega) (by omega)) ⟨rv_v hl, hp⟩⟩
  | succ d ih =>
    intro j c n m hj hok hn hL hm e
    have k1 : (j + 1) * s ≤ N * s := Nat.mul_le_mul_right s (by omega)
    have k2 : (j + 1) * s = j * s + s := Nat.succ_mul j s
    have t1 := rv_t (j := j) (s := s) hLa.1 hLa.2 (by omega)
    have t2 := rv_t (j := j + 1) (s := s) hLa.1 hLa.2 (by omega)
    have hx : 0 ≤ (La + nI (j + 1) * nI s).toInt ∧ (La + nI (j + 1) * nI s).toInt ≤ 1000000 := by
      rw [t2]
      generalize (j + 1) * s = a at *
      generalize N * s = b at *
      generalize j * s = q at *
      omega
    have hlt : (rv_b c l m).toInt < (La + nI (j + 1) * nI s).toInt := by
      rw [t2, e, t1]
      generalize (j + 1) * s = a at *
      generalize j * s = q at *
      omega
    have hL' := rv_Lput hL (by omega) hx hlt
    have hok' := rv_okput hok hl hL (by omega) hx hlt
    obtain ⟨c', n', h1, h2, h3⟩ := ih (j + 1) _ _ (m + 1) (by omega) hok' pk_us hL' (by omega) pk_us
    refine ⟨c', n', h1, fun post hp => br_f (nI_nlt (by omega) (by omega)) (rv_xput hl hn (by omega) (nm_r (nI_1 (j + 1)) (h2 post hp))), fun post hp => br_f (nI_ge (by omega) (by omega)) (rv_lo hl hn (by omega) (nm_r ?_ (rv_yput hl hn (by omega) (nm_r (nI_1 j) (h3 post hp)))))⟩
    rw [e, ← nI_1 j]
    grind
theorem i_vc_run {k : Nat} {u : SX} {v : SY} (I : i_Rel k u v) (hk : k + 4 ≤ 2048) (v1 : Int32) (v2 : Int32) (v3 : Int32) : wpX_run (fun r u' => wpY_run (fun r' v' => r' = r ∧ i_Rel (k + 4) u' v') v v1 v2 v3) u v1 v2 v3 := by
  obtain ⟨c, n, rfl, rfl, hok⟩ := rv_I I
  unfold wpX_run wpY_run
  dsimp only
  rcases rv_isl v1 with ⟨l, hl, rfl⟩ | ⟨hX, hY⟩
  · refine rv_xl hl (br_f rv_10 ?_)
    by_cases a1 : v2 < 0
    · exact br_t a1 (rv_yl hl (br_f rv_10 (br_t a1 ⟨rfl, rfl, hok⟩)))
    by_cases a2 : 64 < v2
    · exact br_f a1 (br_t a2 (rv_yl hl (br_f rv_10 (br_f a1 (br_t a2 ⟨rfl, rfl, hok⟩)))))
    by_cases a3 : v3 < 1
    · exact br_f a1 (br_f a2 (br_t a3 (rv_yl hl (br_f rv_10 (br_f a1 (br_f a2 (br_t a3 ⟨rfl, rfl, hok⟩)))))))
    by_cases a4 : v3 ≤ 1000
    · refine br_f a1 (br_f a2 (br_f a3 (br_t a4 ⟨rv_v hl, ?_⟩)))
      obtain ⟨m, hn, hL⟩ := rv_get hok hl
      by_cases a5 : n (nI l).toNatClampNeg + v2 ≤ 64
      · refine br_t a5 (rv_ln hl hn hL.1 ?_)
        by_cases a6 : rv_b c l m + v2 * v3 ≤ 1000000
        · obtain ⟨N, hN, rfl⟩ := nI_of a1
          have h0 : ¬ v3 < 0 := fun z => a3 (Int32.lt_trans z (by decide))
          obtain ⟨s, hs, rfl⟩ := nI_of h0
          rw [rv_64, nI_ltI (by omega) hN] at a2
          rw [show (1 : Int32) = nI 1 from by decide, nI_ltI hs (by omega)] at a3
          rw [show (1000 : Int32) = nI 1000 from by decide, nI_leI hs (by omega)] at a4
          have hm := hL.1
          have a5' : m + N ≤ 64 := by
            rw [rv_n hl hn, nI_add, rv_64, nI_leI (by omega) (by omega)] at a5
            exact a5
          have hLa := rv_b_in hL
          have hNs : N * s ≤ 64000 := Nat.le_trans (Nat.mul_le_mul (by omega : N ≤ 64) a4) (by decide)
          have a6' := a6
          rw [Int32.le_iff_toInt_le, rv_t hLa.1 hLa.2 hNs, show (1000000 : Int32).toInt = 1000000 from by decide] at a6'
          obtain ⟨c', n', h1, h2, h3⟩ := rv_runL hl (by omega) (by omega : 1 ≤ s) a4 hLa hNs a6' N 0 c n m (Nat.zero_add N) hok hn hL a5' (by rw [nI_0]; grind)
          refine br_t a6 ⟨N + 1, h2 _ ?_⟩
          refine rv_yl hl (br_f rv_10 (br_f a1 ?_))
          refine br_f (by rw [rv_64, nI_ltI (by omega) hN]; exact a2) ?_
          refine br_f (by rw [show (1 : Int32) = nI 1 from by decide, nI_ltI hs (by omega)]; exact a3) ?_
          refine br_t (by rw [show (1000 : Int32) = nI 1000 from by decide, nI_leI hs (by omega)]; exact a4) ⟨rv_v hl, ?_⟩
          exact br_t a5 (rv_lo hl hn hL.1 (br_t a6 ⟨N + 1, h3 _ ⟨rfl, rfl, h1⟩⟩))
        · refine br_f a6 (rv_yl hl (br_f rv_10 (br_f a1 (br_f a2 (br_f a3 (br_t a4 ⟨rv_v hl, ?_⟩))))))
          exact br_t a5 (rv_lo hl hn hL.1 (br_f a6 ⟨rfl, rfl, hok⟩))
      · exact br_f a5 (rv_yl hl (br_f rv_10 (br_f a1 (br_f a2 (br_f a3 (br_t a4 ⟨rv_v hl, br_f a5 ⟨rfl, rfl, hok⟩⟩))))))
    · exact br_f a1 (br_f a2 (br_f a3 (br_f a4 (rv_yl hl (br_f rv_10 (br_f a1 (br_f a2 (br_f a3 (br_f a4 ⟨rfl, rfl, hok⟩)))))))))
  · exact hX _ (br_t rfl (hY _ c n (br_t rfl ⟨rfl, rfl, hok⟩)))
end
section
/-! insert and remove: the cells behind the place move by one -/
def rv_sh (c : Nat → Int32) (b r i : Nat) : Nat → Int32 := fun q => if b + r < q ∧ q ≤ b + i then c (q - 1) else c q
theorem rv_sh0 (c : Nat → Int32) (b r : Nat) : rv_sh c b r r = c := by
  funext q
  unfold rv_sh
  rw [if_neg (by omega)]
theorem rv_shS (c : Nat → Int32) (b r d : Nat) : rv_sh (upd c (b + (r + d + 1)) (c (b + (r + d)))) b r (r + d) = rv_sh c b r (r + d + 1) := by
  funext q
  unfold rv_sh upd
  by_cases h1 : b + r < q ∧ q ≤ b + (r + d)
  · rw [if_pos h1, if_neg (by omega), if_pos (by omega)]
  · rw [if_neg h1]
    by_cases h2 : q = b + (r + d + 1)
    · rw [if_pos h2, if_pos (by omega)]
      exact congrArg c (by omega)
    · rw [if_neg h2, if_neg (by omega)]
theorem rv_opL {n : Nat → Int32} {l m r : Nat} (hl : l < 2) (hn : n l = nI m) : ∀ d (c : Nat → Int32) (post : SX → Prop), r + d < 64 → post (rv_sh c (64 * l) r (r + d), upd n l (nI (m + 1))) → wX_openPlace_13 post (nI l) (nI r) (nI l * 64) (d + 1) (nI (r + d)) c n := by
  intro d
  induction d with
  | zero =>
    intro c post hr hp
    have e : rv_sh c (64 * l) r (r + 0) = c := rv_sh0 c (64 * l) r
    rw [e] at hp
    exact br_t (nI_le (by omega) (by omega)) ⟨rv_v hl, rv_v hl, nm_r (by rw [rv_n hl hn, rv_c hl, nI_1 m]) hp⟩
  | succ d ih =>
    intro c post hr hp
    refine br_f (nI_ge (by omega) (by omega)) ⟨rv_xpi (i := r + d) hl (by omega), rv_xi (i := r + d + 1) hl (by omega), nm_r (e' := upd c (64 * l + (r + d + 1)) (c (64 * l + (r + d)))) ?_ (nm_r (pk_m1 (r + d)) (ih _ post (by omega) ?_))⟩
    · show upd c (nI l * 64 + nI (r + d + 1)).toNatClampNeg (c ((nI l * 64 + nI (r + d + 1)) - 1).toNatClampNeg) = _
      rw [rv_xc hl (by omega), rv_xpc hl (by omega)]
    · rw [rv_shS]
      exact hp
/-- Y's second half: the numbers below the place are only counted -/
theorem rv_inL2 {c n : Nat → Int32} {l m r : Nat} {x : Int32} {post : Int32 → SY → Prop} (hl : l < 2) (hn : n l = nI m) (hr : r < 64) (hc : ∀ i, i < r → c (64 * l + i) ≤ x) (hp : post (nI r) (upd c (64 * l + r) x, upd n l (nI (m + 1)))) : ∀ d p, p + d = r → wY_insert_54 post (nI l) x (d + 1) (nI p) (nI d) c n := by
  intro d
  induction d with
  | zero =>
    intro p e
    obtain rfl : p = r := e
    exact br_t (by decide) ⟨rv_yi hl hr, nm_r (by rw [rv_yc hl hr]) ⟨rv_v hl, rv_v hl, nm_r (by rw [rv_n hl hn, rv_c hl, nI_1 m]) hp⟩⟩
  | succ d ih =>
    intro p e
    exact br_f (nI_nle (by omega) (by omega)) ⟨rv_ypi hl (by omega), br_t (by rw [rv_ypc hl (by omega)]; exact hc d (by omega)) (nm_r (nI_1 p) (nm_r (pk_m1 d) (ih (p + 1) (by omega))))⟩
theorem rv_inL1 {n : Nat → Int32} {l r F : Nat} {x : Int32} {post : Int32 → SY → Prop} (hl : l < 2) : ∀ d (c : Nat → Int32), r + d < 64 → (∀ q, r ≤ q → q < r + d → ¬ c (64 * l + q) ≤ x) → wY_insert_54 post (nI l) x F (nI 0) (nI r) (rv_sh c (64 * l) r (r + d)) n → wY_insert_54 post (nI l) x (F + d) (nI 0) (nI (r + d)) c n := by
  intro d
  induction d with
  | zero =>
    intro c hr hc h
    have e : rv_sh c (64 * l) r (r + 0) = c := rv_sh0 c (64 * l) r
    rw [e] at h
    exact h
  | succ d ih =>
    intro c hr hc h
    have key : wY_insert_54 post (nI l) x (F + d) (nI 0) (nI (r + d)) (upd c (64 * l + (r + d + 1)) (c (64 * l + (r + d)))) n := by
      refine ih _ (by omega) (fun q h1 h2 => ?_) ?_
      · rw [pk_un (by omega)]
        exact hc q h1 (by omega)
      · rw [rv_shS]
        exact h
    refine br_f (nI_nle (n := r + d + 1) (by omega) (by omega)) ⟨rv_ypi (i := r + d) hl (by omega), br_f ?_ ⟨rv_ypi (i := r + d) hl (by omega), rv_yi (i := r + d + 1) hl (by omega), nm_r (e' := upd c (64 * l + (r + d + 1)) (c (64 * l + (r + d)))) ?_ (nm_r (pk_m1 (r + d)) key)⟩⟩
    · show ¬ c ((64 * nI l + nI (r + d + 1)) - 1).toNatClampNeg ≤ x
      rw [rv_ypc hl (by omega)]
      exact hc (r + d) (by omega) (by omega)
    · show upd c (64 * nI l + nI (r + d + 1)).toNatClampNeg (c ((64 * nI l + nI (r + d + 1)) - 1).toNatClampNeg) = _
      rw [rv_yc hl (by omega), rv_ypc hl (by omega)]
/-! the list after an insert -/
theorem rv_inV {c : Nat → Int32} {l m r : Nat} {x : Int32} (i : Nat) : upd (rv_sh c (64 * l) r m) (64 * l + r) x (64 * l + i) = if i = r then x else if r < i ∧ i ≤ m then c (64 * l + (i - 1)) else c (64 * l + i) := by
  unfold upd rv_sh
  by_cases h1 : i = r
  · rw [if_pos (by omega), if_pos h1]
  · rw [if_neg (by omega), if_neg h1]
    by_cases h2 : r < i ∧ i ≤ m
    · rw [if_pos (by omega), if_pos h2]
      exact congrArg c (by omega)
    · rw [if_neg (by omega), if_neg h2]
theorem rv_Lin {c : Nat → Int32} {l m r : Nat} {x : Int32} (hL : rv_L c l m) (hm : m < 64) (hr : r ≤ m) (hx : 0 ≤ x.toInt ∧ x.toInt ≤ 1000000) (h1 : ∀ i, i < r → (c (64 * l + i)).toInt < x.toInt) (h2 : ∀ i, r ≤ i → i < m → x.toInt < (c (64 * l + i)).toInt) : rv_L (upd (rv_sh c (64 * l) r m) (64 * l + r) x) l (m + 1) := by
  obtain ⟨_, a2, a3⟩ := hL
  refine ⟨by omega, fun i hi => ?_, fun i j hi hj => ?_⟩
  · rw [rv_inV]
    by_cases e1 : i = r
    · rw [if_pos e1]; exact hx
    · rw [if_neg e1]
      by_cases e2 : r < i ∧ i ≤ m
      · rw [if_pos e2]; exact a2 _ (by omega)
      · rw [if_neg e2]; exact a2 _ (by omega)
  · rw [rv_inV, rv_inV]
    by_cases e1 : i = r
    · rw [if_pos e1, if_neg (by omega), if_pos (by omega)]
      exact h2 _ (by omega) (by omega)
    · rw [if_neg e1]
      by_cases e2 : r < i ∧ i ≤ m
      · rw [if_pos e2, if_neg (by omega), if_pos (by omega)]
        exact a3 _ _ (by omega) (by omega)
      · rw [if_neg e2]
        by_cases e3 : j = r
        · rw [if_pos e3]
          exact h1 _ (by omega)
        · rw [if_neg e3]
          by_cases e4 : r < j ∧ j ≤ m
          · rw [if_pos e4]
            by_cases e5 : i = j - 1
            · omega
            · exact a3 _ _ (by omega) (by omega)
          · rw [if_neg e4]
            exact a3 _ _ (by omega) (by omega)
theorem rv_out (c : Nat → Int32) (l m r : Nat) (x : Int32) (hm : m < 64) (hr : r ≤ m) (q : Nat) (hq : q < 64 * l ∨ 64 * l + 64 ≤ q) : upd (rv_sh c (64 * l) r m) (64 * l + r) x q = c q := by
  unfold upd rv_sh
  rw [if_neg (by omega), if_neg (by omega)]
theorem i_vc_insert {k : Nat} {u : SX} {v : SY} (I : i_Rel k u v) (hk : k + 4 ≤ 2048) (v1 : Int32) (v2 : Int32) : wpX_insert (fun r u' => wpY_insert (fun r' v' => r' = r ∧ i_Rel (k + 4) u' v') v v1 v2) u v1 v2 := by
  obtain ⟨c, n, rfl, rfl, hok⟩ := rv_I I
  unfold wpX_insert wpY_insert
  dsimp only
  rcases rv_isl v1 with ⟨l, hl, rfl⟩ | ⟨hX, hY⟩
  · rcases rv_isn v2 with ⟨hx, hX, hY⟩ | ⟨hX, hY⟩
    · obtain ⟨m, hn, hL⟩ := rv_get hok hl
      obtain ⟨r, h1, h2, h3, h4⟩ := rv_cb (c := c) v2 hl hn hL.1
      refine rv_xl hl (br_f rv_10 (hX _ (br_f rv_10 (h4 _ ?_))))
      by_cases h : r < m ∧ c (64 * l + r) = v2
      · refine rv_ap1 hl hn hL.1 h.1 h.2 (br_f rv_10 ?_)
        exact rv_yl hl (br_f rv_10 (hY _ c n (br_f rv_10 (rv_h1 hl hn hL.1 h.1 h.2 (br_f rv_10 ⟨rfl, rfl, hok⟩)))))
      · have h' : r < m → ¬ c (64 * l + r) = v2 := fun a b => h ⟨a, b⟩
        have hno := rv_no hL h2 h3 h'
        refine rv_ap0 hl hn hL.1 h1 h' (br_t rfl ⟨rv_v hl, ?_⟩)
        by_cases h6 : m < 64
        · have b1 : ∀ i, i < r → (c (64 * l + i)).toInt < v2.toInt := fun i hi => by
            have := h2 i hi
            rw [Int32.le_iff_toInt_le] at this
            omega
          have b2 : ∀ i, r ≤ i → i < m → v2.toInt < (c (64 * l + i)).toInt := fun i hi hm => by
            have g := h3 (by omega)
            rw [Int32.le_iff_toInt_le] at g
            have g2 : (c (64 * l + r)).toInt ≠ v2.toInt := fun e => h' (by omega) (Int32.toInt_inj.mp e)
            by_cases e : i = r
            · subst e; omega
            · have := hL.2.2 r i (by omega) hm
              omega
          obtain ⟨d, rfl⟩ : ∃ d, m = r + d := ⟨m - r, by omega⟩
          refine br_t (by rw [rv_n hl hn]; exact nI_lt (b := 64) h6 (by decide)) ?_
          unfold wpX_openPlace
          dsimp only
          refine nm_e ⟨rv_v hl, nm_r (rv_n hl hn) ⟨d + 1, rv_opL hl hn d c _ h6 ⟨rv_xi hl (by omega), nm_r (by rw [rv_xc hl (by omega)]) ?_⟩⟩⟩
          refine rv_yl hl (br_f rv_10 (hY _ c n (br_f rv_10 (rv_h0 hl hn hL.1 hno (br_t rfl ⟨rv_v hl, br_f ?_ ⟨rv_v hl, nm_r (rv_n hl hn) ⟨(r + 1) + d, ?_⟩⟩⟩)))))
          · rw [rv_n hl hn, rv_64, nI_eq (by omega) (by omega)]
            omega
          · refine rv_inL1 hl d c h6 (fun q q1 q2 => ?_) (rv_inL2 hl hn (by omega) (fun i hi => ?_) ⟨rfl, rfl, ?_⟩ r 0 (Nat.zero_add r))
            · have := b2 q q1 q2
              rw [Int32.le_iff_toInt_le]
              omega
            · have := b1 i hi
              have e : rv_sh c (64 * l) r (r + d) (64 * l + i) = c (64 * l + i) := if_neg (by omega)
              rw [e, Int32.le_iff_toInt_le]
              omega
            · exact rv_put hok hl (rv_out c l (r + d) r v2 h6 h1) (rv_Lin hL h6 h1 hx b1 b2)
        · have e6 : m = 64 := by have := hL.1; omega
          subst e6
          refine br_f (by rw [rv_n hl hn]; decide) ?_
          exact rv_yl hl (br_f rv_10 (hY _ c n (br_f rv_10 (rv_h0 hl hn hL.1 hno (br_t rfl ⟨rv_v hl, br_t (by rw [rv_n hl hn]; decide) ⟨rfl, rfl, hok⟩⟩)))))
    · exact rv_xl hl (br_f rv_10 (hX _ (br_t rfl (rv_yl hl (br_f rv_10 (hY _ c n (br_t rfl ⟨rfl, rfl, hok⟩)))))))
  · exact hX _ (br_t rfl (hY _ c n (br_t rfl ⟨rfl, rfl, hok⟩)))
end
section
/-! remove, clear -/
def rv_sd (c : Nat → Int32) (b r M : Nat) : Nat → Int32 := fun q => if b + r ≤ q ∧ q < b + M then c (q + 1) else c q
theorem rv_sd0 (c : Nat → Int32) (b M : Nat) : rv_sd c b M M = c := by
  funext q
  unfold rv_sd
  rw [if_neg (by omega)]
theorem rv_sdS (c : Nat → Int32) (b r M : Nat) (h : r < M) : rv_sd (upd c (b + r) (c (b + (r + 1)))) b (r + 1) M = rv_sd c b r M := by
  funext q
  unfold rv_sd upd
  by_cases h1 : b + (r + 1) ≤ q ∧ q < b + M
  · rw [if_pos h1, if_neg (by omega), if_pos (by omega)]
  · rw [if_neg h1]
    by_cases h2 : q = b + r
    · rw [if_pos h2, if_pos (by omega)]
      exact congrArg c (by omega)
    · rw [if_neg h2, if_neg (by omega)]
theorem rv_clL {n : Nat → Int32} {l M : Nat} {post : SX → Prop} (hl : l < 2) (hn : n l = nI M) (hM : M < 64) : ∀ d r (c : Nat → Int32), r + d = M → post (rv_sd c (64 * l) r M, n) → wX_closePlace_18 post (nI l) (nI l * 64) (d + 1) (nI r) c n := by
  intro d
  induction d with
  | zero =>
    intro r c e hp
    obtain rfl : r = M := e
    rw [rv_sd0] at hp
    exact ⟨rv_v hl, pk_le r r (fun _ => hp) (fun z => absurd z (by omega)) (rv_n hl hn)⟩
  | succ d ih =>
    intro r c e hp
    refine ⟨rv_v hl, pk_le M r (fun z => absurd z (by omega)) (fun _ => ⟨rv_xsi hl (by omega), rv_xi hl (by omega), nm_r (e' := upd c (64 * l + r) (c (64 * l + (r + 1)))) (by rw [rv_xc hl (by omega), rv_xsc hl (by omega)]) (nm_r (nI_1 r) (ih (r + 1) _ (by omega) ?_))⟩) (rv_n hl hn)⟩
    rw [rv_sdS c _ r M (by omega)]
    exact hp
theorem rv_reL {n : Nat → Int32} {l M : Nat} {R : Int32} {post : Int32 → SY → Prop} (hl : l < 2) (hn : n l = nI (M + 1)) (hM : M < 64) : ∀ d r (c : Nat → Int32), r + d = M → post R (rv_sd c (64 * l) r M, upd n l (nI M)) → wY_remove_34 post (nI l) R (d + 1) (nI (r + 1)) c n := by
  intro d
  induction d with
  | zero =>
    intro r c e hp
    obtain rfl : r = M := e
    rw [rv_sd0] at hp
    exact ⟨rv_v hl, pk_le (r + 1) (r + 1) (fun _ => ⟨rv_v hl, rv_v hl, nm_r (by rw [rv_n hl hn, rv_c hl, nI_pred]) hp⟩) (fun z => absurd z (by omega)) (rv_n hl hn)⟩
  | succ d ih =>
    intro r c e hp
    refine ⟨rv_v hl, pk_le (M + 1) (r + 1) (fun z => absurd z (by omega)) (fun _ => ⟨rv_yi hl (by omega), rv_ypi hl (by omega), nm_r (e' := upd c (64 * l + r) (c (64 * l + (r + 1)))) (by rw [rv_yc hl (by omega), rv_ypc hl (by omega)]) (nm_r (nI_1 (r + 1)) (ih (r + 1) _ (by omega) ?_))⟩) (rv_n hl hn)⟩
    rw [rv_sdS c _ r M (by omega)]
    exact hp
theorem rv_Lre {c : Nat → Int32} {l M r : Nat} (hL : rv_L c l (M + 1)) (hr : r ≤ M) : rv_L (rv_sd c (64 * l) r M) l M := by
  obtain ⟨a1, a2, a3⟩ := hL
  have e : ∀ i, i < M → rv_sd c (64 * l) r M (64 * l + i) = c (64 * l + (if r ≤ i then i + 1 else i)) := fun i hi => by
    unfold rv_sd
    by_cases h : r ≤ i
    · rw [if_pos (by omega), if_pos h]
      exact congrArg c (by omega)
    · rw [if_neg (by omega), if_neg h]
  refine ⟨by omega, fun i hi => ?_, fun i j hi hj => ?_⟩
  · rw [e i hi]
    exact a2 _ (by split <;> omega)
  · rw [e i (by omega), e j hj]
    exact a3 _ _ (by split <;> split <;> omega) (by split <;> omega)
theorem rv_okre {c n : Nat → Int32} {l M r : Nat} (hok : rv_ok c n) (hl : l < 2) (hL : rv_L c l (M + 1)) (hr : r ≤ M) : rv_ok (rv_sd c (64 * l) r M) (upd n l (nI M)) :=
  rv_put hok hl (fun q hq => if_neg (by have := hL.1; omega)) (rv_Lre hL hr)
theorem i_vc_remove {k : Nat} {u : SX} {v : SY} (I : i_Rel k u v) (hk : k + 4 ≤ 2048) (v1 : Int32) (v2 : Int32) : wpX_remove (fun r u' => wpY_remove (fun r' v' => r' = r ∧ i_Rel (k + 4) u' v') v v1 v2) u v1 v2 := by
  obtain ⟨c, n, rfl, rfl, hok⟩ := rv_I I
  unfold wpX_remove wpY_remove
  dsimp only
  rcases rv_isl v1 with ⟨l, hl, rfl⟩ | ⟨hX, hY⟩
  · obtain ⟨m, hn, hL⟩ := rv_get hok hl
    obtain ⟨r, h1, h2, h3, h4⟩ := rv_cb (c := c) v2 hl hn hL.1
    refine rv_xl hl (br_f rv_10 (h4 _ ?_))
    by_cases h : r < m ∧ c (64 * l + r) = v2
    · refine rv_ap1 hl hn hL.1 h.1 h.2 (br_f rv_10 ?_)
      obtain ⟨M, rfl⟩ : ∃ M, m = M + 1 := ⟨m - 1, by omega⟩
      have hm := hL.1
      unfold wpX_closePlace
      dsimp only
      refine nm_e ⟨rv_v hl, rv_v hl, nm_r (e' := upd n l (nI M)) (by rw [rv_n hl hn, rv_c hl, nI_pred]) ⟨(M - r) + 1, rv_clL hl pk_us (by omega) (M - r) r c (by omega) ?_⟩⟩
      refine rv_yl hl (br_f rv_10 (rv_h1 hl hn hL.1 h.1 h.2 (br_f rv_10 (rv_sk hl hn hL.1 h1 h2 h3 (fun _ => ?_) (fun z => absurd z (by omega))))))
      exact nm_r (nI_1 r) ⟨(M - r) + 1, rv_reL hl hn (by omega) (M - r) r c (by omega) ⟨rfl, rfl, rv_okre hok hl hL (by omega)⟩⟩
    · have h' : r < m → ¬ c (64 * l + r) = v2 := fun a b => h ⟨a, b⟩
      refine rv_ap0 hl hn hL.1 h1 h' (br_t rfl ?_)
      exact rv_yl hl (br_f rv_10 (rv_h0 hl hn hL.1 (rv_no hL h2 h3 h') (br_t rfl ⟨rfl, rfl, hok⟩)))
  · exact hX _ (br_t rfl (hY _ c n (br_t rfl ⟨rfl, rfl, hok⟩)))
theorem i_vc_clear {k : Nat} {u : SX} {v : SY} (I : i_Rel k u v) (hk : k + 4 ≤ 2048) (v1 : Int32) : wpX_clear (fun r u' => wpY_clear (fun r' v' => r' = r ∧ i_Rel (k + 4) u' v') v v1) u v1 := by
  obtain ⟨c, n, rfl, rfl, hok⟩ := rv_I I
  unfold wpX_clear wpY_clear
  dsimp only
  rcases rv_isl v1 with ⟨l, hl, rfl⟩ | ⟨hX, hY⟩
  · refine rv_xl hl (br_f rv_10 ⟨rv_v hl, nm_e ⟨rv_v hl, nm_e ?_⟩⟩)
    refine rv_yl hl (br_f rv_10 ⟨rv_v hl, nm_e ⟨rv_v hl, nm_e ⟨rfl, rfl, ?_⟩⟩⟩)
    show rv_ok c (upd n (nI l).toNatClampNeg 0)
    rw [rv_c hl, ← nI_0]
    exact rv_put hok hl (fun _ _ => rfl) (rv_L0 c l)
  · exact hX _ (br_t rfl (hY _ c n (br_t rfl ⟨rfl, rfl, hok⟩)))
end
section
/-! size, at, seek, has, sum, blocks, common, commonAt, tail -/
theorem i_vc_size {k : Nat} {u : SX} {v : SY} (I : i_Rel k u v) (hk : k + 4 ≤ 2048) (v1 : Int32) : wpX_size (fun r => wpY_size (fun r' => r' = r ∧ i_Rel (k + 4) u v) v v1) u v1 := by
  have J : i_Rel (k + 4) u v := I
  obtain ⟨c, n, rfl, rfl, hok⟩ := rv_I I
  unfold wpX_size wpY_size
  dsimp only
  rcases rv_isl v1 with ⟨l, hl, rfl⟩ | ⟨hX, hY⟩
  · exact rv_xl hl (br_f rv_10 ⟨rv_v hl, rv_yl hl (br_f rv_10 ⟨rv_v hl, rfl, J⟩)⟩)
  · exact hX _ (br_t rfl (hY _ c n (br_t rfl ⟨rfl, J⟩)))
theorem i_vc_at {k : Nat} {u : SX} {v : SY} (I : i_Rel k u v) (hk : k + 4 ≤ 2048) (v1 : Int32) (v2 : Int32) : wpX_at (fun r => wpY_at (fun r' => r' = r ∧ i_Rel (k + 4) u v) v v1 v2) u v1 v2 := by
  have J : i_Rel (k + 4) u v := I
  obtain ⟨c, n, rfl, rfl, hok⟩ := rv_I I
  unfold wpX_at wpY_at
  dsimp only
  rcases rv_isl v1 with ⟨l, hl, rfl⟩ | ⟨hX, hY⟩
  · refine rv_xl hl (br_f rv_10 ?_)
    by_cases h0 : v2 < 0
    · exact br_t h0 (rv_yl hl (br_f rv_10 (br_t h0 ⟨rfl, J⟩)))
    · by_cases h1 : v2 < n (nI l).toNatClampNeg
      · obtain ⟨m, hn, hL⟩ := rv_get hok hl
        have h1' := h1
        obtain ⟨i, hi, rfl⟩ := nI_of h0
        have hm := hL.1
        rw [rv_n hl hn, nI_ltI hi (by omega)] at h1'
        refine br_f h0 ⟨rv_v hl, br_t h1 ⟨rv_xi hl (by omega), rv_yl hl (br_f rv_10 (br_f h0 ⟨rv_v hl, br_t h1 ⟨rv_yi hl (by omega), ?_, J⟩⟩))⟩⟩
        rw [rv_xc hl (by omega), rv_yc hl (by omega)]
      · exact br_f h0 ⟨rv_v hl, br_f h1 (rv_yl hl (br_f rv_10 (br_f h0 ⟨rv_v hl, br_f h1 ⟨rfl, J⟩⟩)))⟩
  · exact hX _ (br_t rfl (hY _ c n (br_t rfl ⟨rfl, J⟩)))
theorem i_vc_seek {k : Nat} {u : SX} {v : SY} (I : i_Rel k u v) (hk : k + 4 ≤ 2048) (v1 : Int32) (v2 : Int32) : wpX_seek (fun r => wpY_seek (fun r' => r' = r ∧ i_Rel (k + 4) u v) v v1 v2) u v1 v2 := by
  have J : i_Rel (k + 4) u v := I
  obtain ⟨c, n, rfl, rfl, hok⟩ := rv_I I
  rcases rv_isl v1 with ⟨l, hl, rfl⟩ | ⟨hX, hY⟩
  · obtain ⟨m, hn, hL⟩ := rv_get hok hl
    obtain ⟨r, h1, h2, h3, h4⟩ := rv_cb (c := c) v2 hl hn hL.1
    have hm := hL.1
    unfold wpX_seek
    dsimp only
    refine rv_xl hl (br_f rv_10 (h4 _ ⟨rv_v hl, pk_le m r (fun z => ?_) (fun z => ?_) (rv_n hl hn)⟩))
    · exact rv_sk hl hn hL.1 h1 h2 h3 (fun y => absurd y (by omega)) (fun _ => ⟨rfl, J⟩)
    · exact rv_sk hl hn hL.1 h1 h2 h3 (fun _ => ⟨rfl, J⟩) (fun y => absurd y (by omega))
  · unfold wpX_seek wpY_seek
    dsimp only
    exact hX _ (br_t rfl (hY _ c n (br_t rfl ⟨rfl, J⟩)))
theorem i_vc_has {k : Nat} {u : SX} {v : SY} (I : i_Rel k u v) (hk : k + 4 ≤ 2048) (v1 : Int32) (v2 : Int32) : wpX_has (fun r => wpY_has (fun r' => r' = r ∧ i_Rel (k + 4) u v) v v1 v2) u v1 v2 := by
  have J : i_Rel (k + 4) u v := I
  obtain ⟨c, n, rfl, rfl, hok⟩ := rv_I I
  rcases rv_isl v1 with ⟨l, hl, rfl⟩ | ⟨hX, hY⟩
  · obtain ⟨m, hn, hL⟩ := rv_get hok hl
    obtain ⟨b, hb, h1, h2⟩ := rv_mem v2 hl hn hL
    unfold wpX_has
    dsimp only
    refine rv_xl hl (br_f rv_10 (h1 _ ?_))
    rcases hb with rfl | rfl
    · exact br_t rfl (h2 _ ⟨rfl, J⟩)
    · exact br_f rv_10 (h2 _ ⟨rfl, J⟩)
  · unfold wpX_has wpY_has
    dsimp only
    exact hX _ (br_t rfl (hY _ c n (br_t rfl ⟨rfl, J⟩)))
theorem rv_smL {c n : Nat → Int32} {l m : Nat} (v2 v3 : Int32) (hl : l < 2) (hn : n l = nI m) (hm : m ≤ 64) : ∀ d j (x : Int32), j + d = m → ∃ r : Int32, (∀ post : Int32 → Prop, post r → wX_sum_15 post (nI l) v2 v3 c n (d + 1) x (nI j)) ∧ (∀ post : Int32 → Prop, post r → wY_sum_16 post (nI l) v2 v3 c n (d + 1) x (nI j)) := by
  intro d
  induction d with
  | zero =>
    intro j x e
    exact ⟨x, fun post hp => ⟨rv_v hl, pk_le m j (fun _ => hp) (fun z => absurd z (by omega)) (rv_n hl hn)⟩, fun post hp => ⟨rv_v hl, pk_le m j (fun _ => hp) (fun z => absurd z (by omega)) (rv_n hl hn)⟩⟩
  | succ d ih =>
    intro j x e
    have h6 : j < 64 := by omega
    by_cases a : nI j < v2
    · obtain ⟨r, h1, h2⟩ := ih (j + 1) x (by omega)
      exact ⟨r, fun post hp => ⟨rv_v hl, pk_le m j (fun z => absurd z (by omega)) (fun _ => br_t a (nm_r (nI_1 j) (h1 post hp))) (rv_n hl hn)⟩, fun post hp => ⟨rv_v hl, pk_le m j (fun z => absurd z (by omega)) (fun _ => br_t a (nm_r (nI_1 j) (h2 post hp))) (rv_n hl hn)⟩⟩
    · by_cases b : v3 < nI j
      · obtain ⟨r, h1, h2⟩ := ih (j + 1) x (by omega)
        exact ⟨r, fun post hp => ⟨rv_v hl, pk_le m j (fun z => absurd z (by omega)) (fun _ => br_f a (br_t b (nm_r (nI_1 j) (h1 post hp)))) (rv_n hl hn)⟩, fun post hp => ⟨rv_v hl, pk_le m j (fun z => absurd z (by omega)) (fun _ => br_f a (br_t b (nm_r (nI_1 j) (h2 post hp)))) (rv_n hl hn)⟩⟩
      · obtain ⟨r, h1, h2⟩ := ih (j + 1) (x + c (64 * l + j)) (by omega)
        exact ⟨r, fun post hp => ⟨rv_v hl, pk_le m j (fun z => absurd z (by omega)) (fun _ => br_f a (br_f b ⟨rv_xi hl h6, nm_r (by rw [rv_xc hl h6]) (nm_r (nI_1 j) (h1 post hp))⟩)) (rv_n hl hn)⟩, fun post hp => ⟨rv_v hl, pk_le m j (fun z => absurd z (by omega)) (fun _ => br_f a (br_f b ⟨rv_yi hl h6, nm_r (by rw [rv_yc hl h6]) (nm_r (nI_1 j) (h2 post hp))⟩)) (rv_n hl hn)⟩⟩
theorem i_vc_sum {k : Nat} {u : SX} {v : SY} (I : i_Rel k u v) (hk : k + 4 ≤ 2048) (v1 : Int32) (v2 : Int32) (v3 : Int32) : wpX_sum (fun r => wpY_sum (fun r' => r' = r ∧ i_Rel (k + 4) u v) v v1 v2 v3) u v1 v2 v3 := by
  have J : i_Rel (k + 4) u v := I
  obtain ⟨c, n, rfl, rfl, hok⟩ := rv_I I
  unfold wpX_sum wpY_sum
  dsimp only
  rcases rv_isl v1 with ⟨l, hl, rfl⟩ | ⟨hX, hY⟩
  · obtain ⟨m, hn, hL⟩ := rv_get hok hl
    obtain ⟨r, h1, h2⟩ := rv_smL (c := c) v2 v3 hl hn hL.1 m 0 0 (Nat.zero_add m)
    exact rv_xl hl (br_f rv_10 ⟨m + 1, h1 _ (rv_yl hl (br_f rv_10 ⟨m + 1, h2 _ ⟨rfl, J⟩⟩))⟩)
  · exact hX _ (br_t rfl (hY _ c n (br_t rfl ⟨rfl, J⟩)))
theorem rv_87 (x : Int32) : x + 8 - 1 = x + 7 := by grind
theorem rv_80 : ¬ (8 : Int32) = 0 := by decide
theorem i_vc_blocks {k : Nat} {u : SX} {v : SY} (I : i_Rel k u v) (hk : k + 4 ≤ 2048) (v1 : Int32) : wpX_blocks (fun r => wpY_blocks (fun r' => r' = r ∧ i_Rel (k + 4) u v) v v1) u v1 := by
  have J : i_Rel (k + 4) u v := I
  obtain ⟨c, n, rfl, rfl, hok⟩ := rv_I I
  unfold wpX_blocks wpY_blocks wpX_blockCount
  dsimp only
  rcases rv_isl v1 with ⟨l, hl, rfl⟩ | ⟨hX, hY⟩
  · refine rv_xl hl (br_f rv_10 ⟨rv_v hl, rv_80, rv_yl hl (br_f rv_10 ⟨rv_v hl, rv_80, ?_, J⟩)⟩)
    rw [rv_87]
  · exact hX _ (br_t rfl (hY _ c n (br_t rfl ⟨rfl, J⟩)))
/-! the two lists together -/
theorem rv_c0 {n : Nat → Int32} {c : Nat → Int32} {m : Nat} (hn : n 0 = nI m) (hL : rv_L c 0 m) (j : Nat) (hj : j < m) : vp_in (nI j) 128 ∧ (nI j).toNatClampNeg = j := ⟨vp_in_nI (by have := hL.1; omega) (by decide), nI_clamp (by have := hL.1; omega)⟩
theorem rv_coL {c n : Nat → Int32} {m m1 : Nat} (hn : n 0 = nI m) (hL : rv_L c 0 m) (hn1 : n 1 = nI m1) (hL1 : rv_L c 1 m1) : ∀ d j (x : Int32), j + d = m → ∃ r : Int32, (∀ post : Int32 → Prop, post r → wX_common_4 post c n (d + 1) x (nI j)) ∧ (∀ post : Int32 → Prop, post r → wY_common_4 post c n (d + 1) x (nI j)) := by
  have hm := hL.1
  intro d
  induction d with
  | zero =>
    intro j x e
    exact ⟨x, fun post hp => pk_le m j (fun _ => hp) (fun z => absurd z (by omega)) hn, fun post hp => pk_le m j (fun _ => hp) (fun z => absurd z (by omega)) hn⟩
  | succ d ih =>
    intro j x e
    have hj := (rv_c0 hn hL j (by omega)).1
    obtain ⟨b, hb, h1, h2⟩ := rv_mem (c (nI j).toNatClampNeg) (l := 1) (by omega) hn1 hL1
    rcases hb with rfl | rfl
    · obtain ⟨r, g1, g2⟩ := ih (j + 1) x (by omega)
      exact ⟨r, fun post hp => pk_le m j (fun z => absurd z (by omega)) (fun _ => ⟨hj, h1 _ (br_t rfl (nm_r (nI_1 j) (g1 post hp)))⟩) hn, fun post hp => pk_le m j (fun z => absurd z (by omega)) (fun _ => ⟨hj, h2 _ (br_t rfl (nm_r (nI_1 j) (g2 post hp)))⟩) hn⟩
    · obtain ⟨r, g1, g2⟩ := ih (j + 1) (x + 1) (by omega)
      exact ⟨r, fun post hp => pk_le m j (fun z => absurd z (by omega)) (fun _ => ⟨hj, h1 _ (br_f rv_10 (nm_e (nm_r (nI_1 j) (g1 post hp))))⟩) hn, fun post hp => pk_le m j (fun z => absurd z (by omega)) (fun _ => ⟨hj, h2 _ (br_f rv_10 (nm_e (nm_r (nI_1 j) (g2 post hp))))⟩) hn⟩
theorem i_vc_common {k : Nat} {u : SX} {v : SY} (I : i_Rel k u v) (hk : k + 4 ≤ 2048) : wpX_common (fun r => wpY_common (fun r' => r' = r ∧ i_Rel (k + 4) u v) v) u := by
  have J : i_Rel (k + 4) u v := I
  obtain ⟨c, n, rfl, rfl, hok⟩ := rv_I I
  obtain ⟨m, hn, hL⟩ := rv_get hok (l := 0) (by omega)
  obtain ⟨m1, hn1, hL1⟩ := rv_get hok (l := 1) (by omega)
  obtain ⟨r, h1, h2⟩ := rv_coL hn hL hn1 hL1 m 0 0 (Nat.zero_add m)
  exact ⟨m + 1, h1 _ ⟨m + 1, h2 _ ⟨rfl, J⟩⟩⟩
theorem rv_caL {c n : Nat → Int32} {m m1 : Nat} (k : Int32) (hn : n 0 = nI m) (hL : rv_L c 0 m) (hn1 : n 1 = nI m1) (hL1 : rv_L c 1 m1) : ∀ d j (x : Int32), j + d = m → ∃ r : Int32, (∀ post : Int32 → Prop, post r → wX_commonAt_4 post k c n (d + 1) x (nI j)) ∧ (∀ post : Int32 → Prop, post r → wY_commonAt_4 post k c n (d + 1) x (nI j)) := by
  have hm := hL.1
  intro d
  induction d with
  | zero =>
    intro j x e
    exact ⟨-4, fun post hp => pk_le m j (fun _ => hp) (fun z => absurd z (by omega)) hn, fun post hp => pk_le m j (fun _ => hp) (fun z => absurd z (by omega)) hn⟩
  | succ d ih =>
    intro j x e
    have hj := (rv_c0 hn hL j (by omega)).1
    obtain ⟨b, hb, h1, h2⟩ := rv_mem (c (nI j).toNatClampNeg) (l := 1) (by omega) hn1 hL1
    rcases hb with rfl | rfl
    · obtain ⟨r, g1, g2⟩ := ih (j + 1) x (by omega)
      exact ⟨r, fun post hp => pk_le m j (fun z => absurd z (by omega)) (fun _ => ⟨hj, h1 _ (br_t rfl (nm_r (nI_1 j) (g1 post hp)))⟩) hn, fun post hp => pk_le m j (fun z => absurd z (by omega)) (fun _ => ⟨hj, h2 _ (br_t rfl (nm_r (nI_1 j) (g2 post hp)))⟩) hn⟩
    · by_cases hx : x = k
      · exact ⟨_, fun post hp => pk_le m j (fun z => absurd z (by omega)) (fun _ => ⟨hj, h1 _ (br_f rv_10 (br_t hx ⟨hj, hp⟩))⟩) hn, fun post hp => pk_le m j (fun z => absurd z (by omega)) (fun _ => ⟨hj, h2 _ (br_f rv_10 (br_t hx ⟨hj, hp⟩))⟩) hn⟩
      · obtain ⟨r, g1, g2⟩ := ih (j + 1) (x + 1) (by omega)
        exact ⟨r, fun post hp => pk_le m j (fun z => absurd z (by omega)) (fun _ => ⟨hj, h1 _ (br_f rv_10 (br_f hx (nm_e (nm_r (nI_1 j) (g1 post hp)))))⟩) hn, fun post hp => pk_le m j (fun z => absurd z (by omega)) (fun _ => ⟨hj, h2 _ (br_f rv_10 (br_f hx (nm_e (nm_r (nI_1 j) (g2 post hp)))))⟩) hn⟩
theorem i_vc_commonAt {k : Nat} {u : SX} {v : SY} (I : i_Rel k u v) (hk : k + 4 ≤ 2048) (v1 : Int32) : wpX_commonAt (fun r => wpY_commonAt (fun r' => r' = r ∧ i_Rel (k + 4) u v) v v1) u v1 := by
  have J : i_Rel (k + 4) u v := I
  obtain ⟨c, n, rfl, rfl, hok⟩ := rv_I I
  obtain ⟨m, hn, hL⟩ := rv_get hok (l := 0) (by omega)
  obtain ⟨m1, hn1, hL1⟩ := rv_get hok (l := 1) (by omega)
  obtain ⟨r, h1, h2⟩ := rv_caL v1 hn hL hn1 hL1 m 0 0 (Nat.zero_add m)
  exact ⟨m + 1, h1 _ ⟨m + 1, h2 _ ⟨rfl, J⟩⟩⟩
theorem rv_taL {c n : Nat → Int32} {l l1 m m1 : Nat} (hl : l < 2) (hl1 : l1 < 2) (e1 : 1 - nI l = nI l1) (hn1 : n l1 = nI m1) (hL : rv_L c l m) (hL1 : rv_L c l1 m1) : ∀ j (x : Int32), j ≤ m → ∃ r : Int32, (∀ post : Int32 → Prop, post r → wX_tail_21 post (nI l) c n (j + 1) x (nI j - 1)) ∧ (∀ post : Int32 → Prop, post r → wY_tail_22 post (nI l) c n (j + 1) x (nI j - 1)) := by
  have hm := hL.1
  intro j
  induction j with
  | zero =>
    intro x h
    exact ⟨x, fun post hp => br_t (by decide) hp, fun post hp => br_t (by decide) hp⟩
  | succ j ih =>
    intro x h
    rw [nI_pred]
    have h6 : j < 64 := by omega
    have e2 : nI j + (-1) = nI j - 1 := by grind
    obtain ⟨b, hb, h1, h2⟩ := rv_mem (c (64 * l + j)) hl1 hn1 hL1
    rw [← e1] at h1 h2
    rcases hb with rfl | rfl
    · refine ⟨x, fun post hp => br_f (nI_pos (by omega)) ⟨rv_xi hl h6, nm_r (by rw [rv_xc hl h6]) (h1 _ (br_t rfl hp))⟩, fun post hp => br_f (nI_pos (by omega)) ⟨rv_yi hl h6, ?_⟩⟩
      rw [rv_yc hl h6]
      exact h2 _ (br_t rfl hp)
    · obtain ⟨r, g1, g2⟩ := ih (c (64 * l + j)) (by omega)
      refine ⟨r, fun post hp => br_f (nI_pos (by omega)) ⟨rv_xi hl h6, nm_r (by rw [rv_xc hl h6]) (h1 _ (br_f rv_10 (nm_r e2 (g1 post hp))))⟩, fun post hp => br_f (nI_pos (by omega)) ⟨rv_yi hl h6, ?_⟩⟩
      rw [rv_yc hl h6]
      exact h2 _ (br_f rv_10 ⟨rv_yi hl h6, nm_e (nm_r e2 (g2 post hp))⟩)
theorem i_vc_tail {k : Nat} {u : SX} {v : SY} (I : i_Rel k u v) (hk : k + 4 ≤ 2048) (v1 : Int32) : wpX_tail (fun r => wpY_tail (fun r' => r' = r ∧ i_Rel (k + 4) u v) v v1) u v1 := by
  have J : i_Rel (k + 4) u v := I
  obtain ⟨c, n, rfl, rfl, hok⟩ := rv_I I
  unfold wpX_tail wpY_tail
  dsimp only
  rcases rv_isl v1 with ⟨l, hl, rfl⟩ | ⟨hX, hY⟩
  · obtain ⟨m, hn, hL⟩ := rv_get hok hl
    obtain ⟨m1, hn1, hL1⟩ := rv_get hok (l := 1 - l) (by omega)
    have e1 : 1 - nI l = nI (1 - l) := pk_sub (a := 1) (by omega)
    obtain ⟨r, h1, h2⟩ := rv_taL hl (by omega) e1 hn1 hL hL1 m (-4) (Nat.le_refl m)
    rw [rv_n hl hn]
    exact rv_xl hl (br_f rv_10 ⟨rv_v hl, nm_e ⟨m + 1, h1 _ (rv_yl hl (br_f rv_10 ⟨rv_v hl, nm_e ⟨m + 1, h2 _ ⟨rfl, J⟩⟩⟩))⟩⟩)
  · exact hX _ (br_t rfl (hY _ c n (br_t rfl ⟨rfl, J⟩)))
end
section
/-! the width of a code, the code at a place, the size of a block at a base -/
theorem rv_wx {q r : Nat} {post : Int32 → Prop} (hq : q < 2 ^ 20) (hr : r ≤ 20) (h1 : ∀ j, j < r → ¬ q < 2 ^ j) (h2 : q < 2 ^ r) (hp : post (nI r)) : ∀ d j, j + d = r → wX_widthOf_2 post (nI q) (d + 1) (nI j) := by
  intro d
  induction d with
  | zero =>
    intro j e
    obtain rfl : j = r := e
    refine br_f (nI_ge (b := 31) (by omega) (by decide)) (br_t ?_ hp)
    rw [pk_shrN (by omega) _ j (s_l j (by omega)), Nat.div_eq_of_lt h2, nI_0]
  | succ d ih =>
    intro j e
    refine br_f (nI_ge (b := 31) (by omega) (by decide)) (br_f ?_ (nm_r (nI_1 j) (ih (j + 1) (by omega))))
    rw [pk_shrN (by omega) _ j (s_l j (by omega))]
    have h := h1 j (by omega)
    have hd : 0 < q / 2 ^ j := Nat.div_pos (by omega) (Nat.two_pow_pos j)
    have hle : q / 2 ^ j ≤ q := Nat.div_le_self _ _
    exact nI_ne0 hd (by omega)
theorem rv_p20 {r : Nat} (hr : r ≤ 20) : 2 ^ r ≤ 2 ^ 20 := Nat.pow_le_pow_right (by decide) hr
theorem rv_1sh {r : Nat} (hr : r ≤ 20) : (1 : Int32) <<< (nI r &&& 31) = nI (2 ^ r) := by
  have h := pk_shlN (n := 1) (nI r &&& 31) r (s_l r (by omega)) (by have := rv_p20 hr; omega)
  rw [Nat.one_mul] at h
  exact h
theorem rv_wy {c n : Nat → Int32} {q r : Nat} {post : Int32 → Prop} (hq : q < 2 ^ 20) (hr : r ≤ 20) (h1 : ∀ j, j < r → ¬ q < 2 ^ j) (h2 : q < 2 ^ r) (hp : post (nI r)) : ∀ d j, j + d = r → wY_widthOf_2 post (nI q) c n (d + 1) (nI j) := by
  intro d
  induction d with
  | zero =>
    intro j e
    obtain rfl : j = r := e
    refine br_c (fun _ => hp) (fun _ => br_t ?_ hp)
    have := rv_p20 hr
    rw [rv_1sh hr]
    exact nI_lt h2 (by omega)
  | succ d ih =>
    intro j e
    refine br_f (nI_ge (b := 20) (by omega) (by decide)) (br_f ?_ (nm_r (nI_1 j) (ih (j + 1) (by omega))))
    rw [rv_1sh (by omega)]
    have h := h1 j (by omega)
    exact nI_nlt (by omega) (by omega)
theorem rv_w {q : Nat} (hq : q < 2 ^ 20) : ∃ w : Int32, (∀ post : Int32 → Prop, post w → wpX_widthOf post (nI q)) ∧ (∀ (post : Int32 → Prop) (c n : Nat → Int32), post w → wpY_widthOf post (c, n) (nI q)) := by
  obtain ⟨r, h2, h1⟩ := pk_least (fun r => q < 2 ^ r) ⟨20, hq⟩
  have hr : r ≤ 20 := Nat.le_of_not_lt fun z => h1 20 z hq
  exact ⟨nI r, fun post hp => ⟨r + 1, rv_wx hq hr h1 h2 hp r 0 (Nat.zero_add r)⟩, fun post c n hp => ⟨r + 1, rv_wy hq hr h1 h2 hp r 0 (Nat.zero_add r)⟩⟩
theorem rv_code_in {a b : Int32} (ha : a.toInt ≤ 1000000) (hb : -1 ≤ b.toInt) (h : b.toInt < a.toInt) : ∃ q, q < 2 ^ 20 ∧ a - b - 1 = nI q := by
  have e : (a - b - 1).toInt = a.toInt - b.toInt - 1 := by
    rw [Int32.toInt_sub, Int32.toInt_sub, show (1 : Int32).toInt = 1 from by decide, Int.bmod_eq_of_le (n := a.toInt - b.toInt) (by omega) (by omega)]
    exact Int.bmod_eq_of_le (by omega) (by omega)
  have h0 : ¬ a - b - 1 < 0 := by
    rw [Int32.lt_iff_toInt_lt, e, show (0 : Int32).toInt = 0 from by decide]
    omega
  obtain ⟨q, hq, e2⟩ := nI_of h0
  refine ⟨q, ?_, e2⟩
  rw [e2, nI_toInt hq] at e
  omega
theorem rv_code {c n : Nat → Int32} {l m p : Nat} (hl : l < 2) (hL : rv_L c l m) (hp : p < m) : ∃ w : Int32, (∀ post : Int32 → Prop, post w → wpX_codeAt (fun r => wpX_widthOf post r) (c, n) (nI l) (nI p)) ∧ (∀ post : Int32 → Prop, post w → wpY_codeAt (fun r => wpY_widthOf post (c, n) r) (c, n) (nI l) (nI p)) := by
  have hm := hL.1
  have hlt : -1 ≤ (rv_b c l p).toInt ∧ (rv_b c l p).toInt < (c (64 * l + p)).toInt := by
    have a := hL.2.1 p hp
    cases p with
    | zero =>
      have e : (rv_b c l 0).toInt = -1 := by
        show (-1 : Int32).toInt = -1
        decide
      rw [e]
      omega
    | succ i =>
      have b := hL.2.1 i (by omega)
      have d := hL.2.2 i (i + 1) (by omega) hp
      show -1 ≤ (c (64 * l + i)).toInt ∧ (c (64 * l + i)).toInt < _
      omega
  obtain ⟨q, hq, e⟩ := rv_code_in (hL.2.1 p hp).2 hlt.1 hlt.2
  obtain ⟨w, h1, h2⟩ := rv_w hq
  refine ⟨w, fun post hw => ⟨rv_xi hl (by omega), rv_xb hl (by omega) ?_⟩, fun post hw => ?_⟩
  · rw [rv_xc hl (by omega), e]
    exact h1 post hw
  · cases p with
    | zero =>
      refine br_t nI_0 ⟨rv_yi hl (by omega), ?_⟩
      rw [rv_yc hl (by omega)]
      have e : c (64 * l + 0) - (-1) - 1 = nI q := e
      rw [e]
      exact h2 post c n hw
    | succ i =>
      refine br_f (nI_ne0 (by omega) (by omega)) ⟨rv_ypi hl (by omega), rv_yi hl (by omega), ?_⟩
      rw [rv_yc hl (by omega), rv_ypc hl (by omega)]
      have e : c (64 * l + (i + 1)) - c (64 * l + i) - 1 = nI q := e
      rw [e]
      exact h2 post c n hw
theorem rv_8 : (8 : Int32) = nI 8 := by decide
theorem rv_8b (b : Nat) : 8 * nI b = nI (8 * b) := by rw [rv_8, pk_mul]
theorem rv_b8 (b : Nat) : nI b * 8 = nI (8 * b) := by rw [rv_8, pk_mul, Nat.mul_comm]
theorem rv_88 (b : Nat) : 8 * nI b + 8 = nI (8 * b + 8) := by rw [rv_8, pk_mul, nI_add]
theorem rv_b18 (b : Nat) : (nI b + 1) * 8 = nI (8 * b + 8) := by rw [nI_1, rv_b8, Nat.mul_add]
theorem rv_szL {c n : Nat → Int32} {l m b E : Nat} (W : Int32) (hl : l < 2) (hn : n l = nI m) (hL : rv_L c l m) (hb : 8 * b < m) (h1 : E ≤ m) (h2 : E ≤ 8 * b + 8) (h3 : E = m ∨ E = 8 * b + 8) : ∀ d j (x : Int32), j + d = E → ∃ r : Int32, (∀ post : Int32 → Prop, post r → wX_sizeAtBase_18 post (nI l) W (nI E) c n (d + 1) x (nI j)) ∧ (∀ post : Int32 → Prop, post r → wY_sizeAt_10 post (nI l) (nI b) W c n (d + 1) x (nI j)) := by
  have hm := hL.1
  intro d
  induction d with
  | zero =>
    intro j x e
    exact ⟨x, fun post hp => br_t (nI_le (by omega) (by omega)) hp, fun post hp => pk_le (8 * b + 8) j (fun _ => hp) (fun _ => ⟨rv_v hl, pk_le m j (fun _ => hp) (fun z => absurd z (by omega)) (rv_n hl hn)⟩) (rv_88 b)⟩
  | succ d ih =>
    intro j x e
    obtain ⟨w, g1, g2⟩ := rv_code (n := n) hl hL (p := j) (by omega)
    by_cases hw : W < w
    · obtain ⟨r, i1, i2⟩ := ih (j + 1) (x + ((W + 8) + (w - W))) (by omega)
      refine ⟨r, fun post hp => br_f (nI_ge (by omega) (by omega)) (g1 _ (br_t hw (nm_e (nm_r (nI_1 j) (i1 post hp))))), fun post hp => pk_le (8 * b + 8) j (fun z => absurd z (by omega)) (fun _ => ⟨rv_v hl, pk_le m j (fun z => absurd z (by omega)) (fun _ => g2 _ (br_t hw (nm_r ?_ (nm_r (nI_1 j) (i2 post hp))))) (rv_n hl hn)⟩) (rv_88 b)⟩
      grind
    · obtain ⟨r, i1, i2⟩ := ih (j + 1) (x + W) (by omega)
      exact ⟨r, fun post hp => br_f (nI_ge (by omega) (by omega)) (g1 _ (br_f hw (nm_e (nm_r (nI_1 j) (i1 post hp))))), fun post hp => pk_le (8 * b + 8) j (fun z => absurd z (by omega)) (fun _ => ⟨rv_v hl, pk_le m j (fun z => absurd z (by omega)) (fun _ => g2 _ (br_f hw (nm_e (nm_r (nI_1 j) (i2 post hp))))) (rv_n hl hn)⟩) (rv_88 b)⟩
theorem rv_be {c n : Nat → Int32} {l m b : Nat} (hl : l < 2) (hn : n l = nI m) (hm : m ≤ 64) (hb : 8 * b < m) : ∃ E, E ≤ m ∧ E ≤ 8 * b + 8 ∧ (E = m ∨ E = 8 * b + 8) ∧ ∀ post : Int32 → Prop, post (nI E) → wpX_blockEnd post (c, n) (nI l) (nI b) := by
  by_cases h : m ≤ 8 * b + 8
  · refine ⟨m, Nat.le_refl m, h, Or.inl rfl, fun post hp => nm_r (rv_b18 b) ⟨rv_v hl, pk_le m (8 * b + 8) (fun _ => ⟨rv_v hl, ?_⟩) (fun z => absurd z (by omega)) (rv_n hl hn)⟩⟩
    rw [rv_n hl hn]
    exact hp
  · exact ⟨8 * b + 8, by omega, Nat.le_refl _, Or.inr rfl, fun post hp => nm_r (rv_b18 b) ⟨rv_v hl, pk_le m (8 * b + 8) (fun z => absurd z (by omega)) (fun _ => hp) (rv_n hl hn)⟩⟩
theorem rv_size {c n : Nat → Int32} {l m b : Nat} (hl : l < 2) (hn : n l = nI m) (hL : rv_L c l m) (hb : 8 * b < m) (W : Int32) : ∃ r : Int32, (∀ post : Int32 → Prop, post r → wpX_sizeAtBase post (c, n) (nI l) (nI b) W) ∧ (∀ post : Int32 → Prop, post r → wpY_sizeAt post (c, n) (nI l) (nI b) W) := by
  obtain ⟨E, h1, h2, h3, h4⟩ := rv_be (c := c) hl hn hL.1 hb
  obtain ⟨r, g1, g2⟩ := rv_szL W hl hn hL hb h1 h2 h3 (E - 8 * b) (8 * b) 9 (by omega)
  refine ⟨r, fun post hp => ?_, fun post hp => nm_r (rv_8b b) ⟨_, g2 post hp⟩⟩
  unfold wpX_sizeAtBase
  dsimp only
  exact h4 _ (nm_r (rv_b8 b) ⟨_, g1 post hp⟩)
end
section
/-! the best base and the least size; base, blockSize, packed -/
def rv_B (S : Nat → Int32) : Nat → Nat
  | 0 => 0
  | w + 1 => if S (rv_B S w) ≤ S (w + 1) then rv_B S w else w + 1
theorem rv_Bt {S : Nat → Int32} {w : Nat} (h : S (rv_B S w) ≤ S (w + 1)) : rv_B S (w + 1) = rv_B S w := if_pos h
theorem rv_Bf {S : Nat → Int32} {w : Nat} (h : ¬ S (rv_B S w) ≤ S (w + 1)) : rv_B S (w + 1) = w + 1 := if_neg h
theorem rv_Bm (S : Nat → Int32) : ∀ w, rv_B S w ≤ w ∧ (∀ j, j ≤ w → S (rv_B S w) ≤ S j) ∧ (∀ j, j < rv_B S w → ¬ S j = S (rv_B S w)) := by
  intro w
  induction w with
  | zero =>
    refine ⟨Nat.le_refl 0, fun j hj => ?_, fun j hj => absurd hj (Nat.not_lt_zero j)⟩
    obtain rfl : j = 0 := by omega
    exact Int32.le_refl _
  | succ w ih =>
    obtain ⟨h1, h2, h3⟩ := ih
    by_cases h : S (rv_B S w) ≤ S (w + 1)
    · rw [rv_Bt h]
      refine ⟨by omega, fun j hj => ?_, h3⟩
      by_cases e : j = w + 1
      · subst e; exact h
      · exact h2 j (by omega)
    · rw [rv_Bf h]
      have h' : S (w + 1) < S (rv_B S w) := Int32.not_le.mp h
      refine ⟨Nat.le_refl _, fun j hj => ?_, fun j hj e => ?_⟩
      · by_cases e : j = w + 1
        · subst e; exact Int32.le_refl _
        · exact Int32.le_trans (Int32.le_of_lt h') (h2 j (by omega))
      · have := h2 j (by omega)
        rw [e] at this
        exact h this
theorem rv_lsL {c n : Nat → Int32} {l b : Nat} {S : Nat → Int32} {post : Int32 → Prop} (hX : ∀ (w : Nat) (post : Int32 → Prop), post (S w) → wpX_sizeAtBase post (c, n) (nI l) (nI b) (nI w)) (hp : post (S (rv_B S 20))) : ∀ d w, w + d = 20 → wX_leastSize_11 post (nI l) (nI b) c n (d + 1) (S (rv_B S w)) (nI (w + 1)) := by
  intro d
  induction d with
  | zero =>
    intro w e
    obtain rfl : w = 20 := e
    exact br_t (by decide) hp
  | succ d ih =>
    intro w e
    refine br_f (nI_nlt (b := w + 1) (a := 20) (by omega) (by decide)) (hX (w + 1) _ ?_)
    have := ih (w + 1) (by omega)
    by_cases h : S (rv_B S w) ≤ S (w + 1)
    · rw [rv_Bt h] at this
      exact br_t h (nm_r (nI_1 (w + 1)) this)
    · rw [rv_Bf h] at this
      exact br_f h (nm_r (nI_1 (w + 1)) this)
theorem rv_bbL {c n : Nat → Int32} {l b : Nat} {S : Nat → Int32} {post : Int32 → Prop} (hY : ∀ (w : Nat) (post : Int32 → Prop), post (S w) → wpY_sizeAt post (c, n) (nI l) (nI b) (nI w)) (hp : post (nI (rv_B S 20))) : ∀ d w, w + d = 20 → wY_bestBase_5 post (nI l) (nI b) c n (d + 1) (nI (rv_B S w)) (nI (w + 1)) := by
  intro d
  induction d with
  | zero =>
    intro w e
    obtain rfl : w = 20 := e
    exact br_t (by decide) hp
  | succ d ih =>
    intro w e
    refine br_f (nI_nlt (b := w + 1) (a := 20) (by omega) (by decide)) (hY (w + 1) _ (hY (rv_B S w) _ ?_))
    have := ih (w + 1) (by omega)
    by_cases h : S (rv_B S w) ≤ S (w + 1)
    · rw [rv_Bt h] at this
      exact br_t h (nm_r (nI_1 (w + 1)) this)
    · rw [rv_Bf h] at this
      exact br_f h (nm_r (nI_1 (w + 1)) this)
theorem rv_lbL {c n : Nat → Int32} {l b : Nat} {S : Nat → Int32} {post : Int32 → Prop} (hX : ∀ (w : Nat) (post : Int32 → Prop), post (S w) → wpX_sizeAtBase post (c, n) (nI l) (nI b) (nI w)) (hp : post (nI (rv_B S 20))) : ∀ d w, w + d = rv_B S 20 → wX_leastBaseOfSize_3 post (nI l) (nI b) (S (rv_B S 20)) c n (d + 1) (nI w) := by
  obtain ⟨h1, h2, h3⟩ := rv_Bm S 20
  intro d
  induction d with
  | zero =>
    intro w e
    have e : w = rv_B S 20 := e
    rw [← e] at hp ⊢
    exact br_c (fun _ => hp) (fun _ => hX w _ (br_t rfl hp))
  | succ d ih =>
    intro w e
    exact br_f (nI_ge (b := 20) (by omega) (by decide)) (hX w _ (br_f (h3 w (by omega)) (nm_r (nI_1 w) (ih (w + 1) (by omega)))))
theorem rv_block {c n : Nat → Int32} {l m b : Nat} (hl : l < 2) (hn : n l = nI m) (hL : rv_L c l m) (hb : 8 * b < m) : ∃ s w : Int32, (∀ post : Int32 → Prop, post s → wpX_leastSize post (c, n) (nI l) (nI b)) ∧ (∀ post : Int32 → Prop, post w → wpX_leastBaseOfSize post (c, n) (nI l) (nI b) s) ∧ (∀ post : Int32 → Prop, post w → wpY_bestBase post (c, n) (nI l) (nI b)) ∧ (∀ post : Int32 → Prop, post s → wpY_sizeAt post (c, n) (nI l) (nI b) w) := by
  obtain ⟨S, hS⟩ := Classical.axiomOfChoice (fun w : Nat => rv_size hl hn hL hb (nI w))
  have hX := fun w => (hS w).1
  have hY := fun w => (hS w).2
  refine ⟨S (rv_B S 20), nI (rv_B S 20), fun post hp => ?_, fun post hp => ?_, fun post hp => ?_, fun post hp => hY _ post hp⟩
  · unfold wpX_leastSize
    dsimp only
    exact hX 0 _ ⟨21, rv_lsL hX hp 20 0 rfl⟩
  · exact ⟨rv_B S 20 + 1, rv_lbL hX hp (rv_B S 20) 0 (Nat.zero_add _)⟩
  · exact ⟨21, rv_bbL hY hp 20 0 rfl⟩
theorem rv_cnt {m : Nat} (hm : m ≤ 64) : (nI m + 7) / 8 = nI ((m + 7) / 8) := by
  rw [show (7 : Int32) = nI 7 from by decide, nI_add, rv_8, pk_div (by omega) (by decide) (by decide)]
theorem rv_isb {c n : Nat → Int32} {l m : Nat} (v2 : Int32) (hl : l < 2) (hn : n l = nI m) (hm : m ≤ 64) : (∃ b, v2 = nI b ∧ 8 * b < m ∧ (∀ post : Int32 → Prop, post 1 → wpX_isBlock post (c, n) (nI l) v2) ∧ (∀ post : Int32 → Prop, post 1 → wpY_isBlock post (c, n) (nI l) v2)) ∨ ((∀ post : Int32 → Prop, post 0 → wpX_isBlock post (c, n) (nI l) v2) ∧ (∀ post : Int32 → Prop, post 0 → wpY_isBlock post (c, n) (nI l) v2)) := by
  have eX : (n (nI l).toNatClampNeg + 8 - 1) / 8 = nI ((m + 7) / 8) := by rw [rv_n hl hn, rv_87, rv_cnt hm]
  have eY : (n (nI l).toNatClampNeg + 7) / 8 = nI ((m + 7) / 8) := by rw [rv_n hl hn, rv_cnt hm]
  by_cases h0 : v2 < 0
  · exact Or.inr ⟨fun post hp => br_t h0 hp, fun post hp => br_t h0 hp⟩
  · by_cases h1 : nI ((m + 7) / 8) ≤ v2
    · exact Or.inr ⟨fun post hp => br_f h0 ⟨rv_v hl, rv_80, br_t (by rw [eX]; exact h1) hp⟩, fun post hp => br_f h0 ⟨rv_v hl, rv_80, br_t (by rw [eY]; exact h1) hp⟩⟩
    · refine Or.inl ?_
      obtain ⟨b, hb, rfl⟩ := nI_of h0
      refine ⟨b, rfl, ?_, fun post hp => br_f h0 ⟨rv_v hl, rv_80, br_f (by rw [eX]; exact h1) hp⟩, fun post hp => br_f h0 ⟨rv_v hl, rv_80, br_f (by rw [eY]; exact h1) hp⟩⟩
      rw [nI_leI (by omega) hb] at h1
      omega
theorem i_vc_base {k : Nat} {u : SX} {v : SY} (I : i_Rel k u v) (hk : k + 4 ≤ 2048) (v1 : Int32) (v2 : Int32) : wpX_base (fun r => wpY_base (fun r' => r' = r ∧ i_Rel (k + 4) u v) v v1 v2) u v1 v2 := by
  have J : i_Rel (k + 4) u v := I
  obtain ⟨c, n, rfl, rfl, hok⟩ := rv_I I
  unfold wpX_base wpY_base
  dsimp only
  rcases rv_isl v1 with ⟨l, hl, rfl⟩ | ⟨hX, hY⟩
  · obtain ⟨m, hn, hL⟩ := rv_get hok hl
    rcases rv_isb (c := c) v2 hl hn hL.1 with ⟨b, rfl, hb, hX, hY⟩ | ⟨hX, hY⟩
    · obtain ⟨s, w, h1, h2, h3, h4⟩ := rv_block hl hn hL hb
      refine rv_xl hl (br_f rv_10 (hX _ (br_f rv_10 (h1 _ (h2 _ ?_)))))
      exact rv_yl hl (br_f rv_10 (hY _ (br_f rv_10 (h3 _ ⟨rfl, J⟩))))
    · exact rv_xl hl (br_f rv_10 (hX _ (br_t rfl (rv_yl hl (br_f rv_10 (hY _ (br_t rfl ⟨rfl, J⟩)))))))
  · exact hX _ (br_t rfl (hY _ c n (br_t rfl ⟨rfl, J⟩)))
theorem i_vc_blockSize {k : Nat} {u : SX} {v : SY} (I : i_Rel k u v) (hk : k + 4 ≤ 2048) (v1 : Int32) (v2 : Int32) : wpX_blockSize (fun r => wpY_blockSize (fun r' => r' = r ∧ i_Rel (k + 4) u v) v v1 v2) u v1 v2 := by
  have J : i_Rel (k + 4) u v := I
  obtain ⟨c, n, rfl, rfl, hok⟩ := rv_I I
  unfold wpX_blockSize wpY_blockSize
  dsimp only
  rcases rv_isl v1 with ⟨l, hl, rfl⟩ | ⟨hX, hY⟩
  · obtain ⟨m, hn, hL⟩ := rv_get hok hl
    rcases rv_isb (c := c) v2 hl hn hL.1 with ⟨b, rfl, hb, hX, hY⟩ | ⟨hX, hY⟩
    · obtain ⟨s, w, h1, h2, h3, h4⟩ := rv_block hl hn hL hb
      refine rv_xl hl (br_f rv_10 (hX _ (br_f rv_10 (h1 _ ?_))))
      exact rv_yl hl (br_f rv_10 (hY _ (br_f rv_10 (h3 _ (h4 _ ⟨rfl, J⟩)))))
    · exact rv_xl hl (br_f rv_10 (hX _ (br_t rfl (rv_yl hl (br_f rv_10 (hY _ (br_t rfl ⟨rfl, J⟩)))))))
  · exact hX _ (br_t rfl (hY _ c n (br_t rfl ⟨rfl, J⟩)))
end
section
/-! packed: both lists, block by block -/
theorem rv_bs {c n : Nat → Int32} {l m b : Nat} (hl : l < 2) (hn : n l = nI m) (hL : rv_L c l m) (hb : 8 * b < m) : ∃ s : Int32, (∀ post : Int32 → Prop, post s → wpX_leastSize post (c, n) (nI l) (nI b)) ∧ (∀ post : Int32 → Prop, post s → wpY_blockSize post (c, n) (nI l) (nI b)) := by
  have hm := hL.1
  have eY : (n (nI l).toNatClampNeg + 7) / 8 = nI ((m + 7) / 8) := by rw [rv_n hl hn, rv_cnt hm]
  obtain ⟨s, w, h1, h2, h3, h4⟩ := rv_block hl hn hL hb
  refine ⟨s, h1, fun post hp => ?_⟩
  unfold wpY_blockSize
  dsimp only
  refine rv_yl hl (br_f rv_10 ?_)
  exact br_f (nI_pos (by omega)) ⟨rv_v hl, rv_80, br_f (by rw [eY]; exact nI_ge (by omega) (by omega)) (br_f rv_10 (h3 _ (h4 _ hp)))⟩
theorem rv_pkL {c n : Nat → Int32} {l m : Nat} (hl : l < 2) (hn : n l = nI m) (hL : rv_L c l m) : ∀ d j (x : Int32), j + d = (m + 7) / 8 → ∃ r : Int32, (∀ (post : Int32 → Prop) (J : Int32 → Int32 → Prop), J r (nI (l + 1)) → wX_packed_18 post J (nI l) (nI ((m + 7) / 8)) c n (d + 1) x (nI j)) ∧ (∀ (post : Int32 → Prop) (J : Int32 → Int32 → Prop), J r (nI (l + 1)) → wY_packed_11 post J (nI l) c n (d + 1) x (nI j)) := by
  have hm := hL.1
  have eY : (n (nI l).toNatClampNeg + 7) / 8 = nI ((m + 7) / 8) := by rw [rv_n hl hn, rv_cnt hm]
  intro d
  induction d with
  | zero =>
    intro j x e
    exact ⟨x, fun post J hJ => br_t (nI_le (by omega) (by omega)) (nm_r (nI_1 l) hJ), fun post J hJ => ⟨rv_v hl, rv_80, br_t (by rw [eY]; exact nI_le (by omega) (by omega)) (nm_r (nI_1 l) hJ)⟩⟩
  | succ d ih =>
    intro j x e
    obtain ⟨s, h1, h2⟩ := rv_bs hl hn hL (b := j) (by omega)
    obtain ⟨r, g1, g2⟩ := ih (j + 1) (x + s) (by omega)
    exact ⟨r, fun post J hJ => br_f (nI_ge (by omega) (by omega)) (h1 _ (nm_e (nm_r (nI_1 j) (g1 post J hJ)))), fun post J hJ => ⟨rv_v hl, rv_80, br_f (by rw [eY]; exact nI_ge (by omega) (by omega)) (h2 _ (nm_e (nm_r (nI_1 j) (g2 post J hJ))))⟩⟩
theorem rv_poL {c n : Nat → Int32} (hok : rv_ok c n) : ∀ d l (x : Int32), l + d = 2 → ∃ r : Int32, (∀ post : Int32 → Prop, post r → wX_packed_4 post c n (d + 1) x (nI l)) ∧ (∀ post : Int32 → Prop, post r → wY_packed_4 post c n (d + 1) x (nI l)) := by
  intro d
  induction d with
  | zero =>
    intro l x e
    obtain rfl : l = 2 := e
    exact ⟨x, fun post hp => br_t (by decide) hp, fun post hp => br_t (by decide) hp⟩
  | succ d ih =>
    intro l x e
    have hl : l < 2 := by omega
    obtain ⟨m, hn, hL⟩ := rv_get hok hl
    obtain ⟨t, h1, h2⟩ := rv_pkL hl hn hL ((m + 7) / 8) 0 x (Nat.zero_add _)
    obtain ⟨r, g1, g2⟩ := ih (l + 1) t (by omega)
    have eX : (n (nI l).toNatClampNeg + 8 - 1) / 8 = nI ((m + 7) / 8) := by rw [rv_n hl hn, rv_87, rv_cnt hL.1]
    refine ⟨r, fun post hp => br_f (nI_ge (b := 2) hl (by decide)) ⟨rv_v hl, rv_80, ?_⟩, fun post hp => br_f (nI_ge (b := 2) hl (by decide)) ⟨_, h2 post _ (g2 post hp)⟩⟩
    rw [eX]
    exact ⟨_, h1 post _ (g1 post hp)⟩
theorem i_vc_packed {k : Nat} {u : SX} {v : SY} (I : i_Rel k u v) (hk : k + 4 ≤ 2048) : wpX_packed (fun r => wpY_packed (fun r' => r' = r ∧ i_Rel (k + 4) u v) v) u := by
  have J : i_Rel (k + 4) u v := I
  obtain ⟨c, n, rfl, rfl, hok⟩ := rv_I I
  obtain ⟨r, h1, h2⟩ := rv_poL hok 2 0 0 rfl
  exact ⟨3, h1 _ ⟨3, h2 _ ⟨rfl, J⟩⟩⟩
end
