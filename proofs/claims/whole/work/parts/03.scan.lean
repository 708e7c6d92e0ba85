/-! the scans of one list: countBelow, isAtPlace, contains; has, seek -/
theorem rv_cbL {c n : Nat → Int32} {l m : Nat} (x : Int32) (hl : l < 2) (hn : n l = nI m) (hm : m ≤ 64) : ∀ d j, j + d = m → (∀ i, i < j → ¬ x ≤ c (64 * l + i)) → ∃ r, r ≤ m ∧ (∀ i, i < r → ¬ x ≤ c (64 * l + i)) ∧ (r < m → x ≤ c (64 * l + r)) ∧ ∀ post : Int32 → Prop, post (nI r) → wX_countBelow_2 post (nI l) x c n (d + 1) (nI j) := by
  intro d
  induction d with
  | zero =>
    intro j hj h
    exact ⟨j, by omega, h, fun z => absurd z (by omega), fun post hp => ⟨rv_v hl, pk_le m j (fun _ => hp) (fun z => absurd z (by omega)) (rv_n hl hn)⟩⟩
  | succ d ih =>
    intro j hj h
    have h6 : j < 64 := by omega
    by_cases hx : x ≤ c (64 * l + j)
    · exact ⟨j, by omega, h, fun _ => hx, fun post hp => ⟨rv_v hl, pk_le m j (fun _ => hp) (fun _ => ⟨rv_xi hl h6, br_t (by rw [rv_xc hl h6]; exact hx) hp⟩) (rv_n hl hn)⟩⟩
    · obtain ⟨r, h1, h2, h3, h4⟩ := ih (j + 1) (by omega) (lt_s (p := fun i => ¬ x ≤ c (64 * l + i)) h hx)
      exact ⟨r, h1, h2, h3, fun post hp => ⟨rv_v hl, pk_le m j (fun z => absurd z (by omega)) (fun _ => ⟨rv_xi hl h6, br_f (by rw [rv_xc hl h6]; exact hx) (nm_r (nI_1 j) (h4 post hp))⟩) (rv_n hl hn)⟩⟩
theorem rv_cb {c n : Nat → Int32} {l m : Nat} (x : Int32) (hl : l < 2) (hn : n l = nI m) (hm : m ≤ 64) : ∃ r, r ≤ m ∧ (∀ i, i < r → ¬ x ≤ c (64 * l + i)) ∧ (r < m → x ≤ c (64 * l + r)) ∧ ∀ post : Int32 → Prop, post (nI r) → wpX_countBelow post (c, n) (nI l) x := by
  obtain ⟨r, h1, h2, h3, h4⟩ := rv_cbL (c := c) x hl hn hm m 0 (Nat.zero_add m) (fun i h => absurd h (Nat.not_lt_zero i))
  exact ⟨r, h1, h2, h3, fun post hp => ⟨m + 1, h4 post hp⟩⟩
theorem rv_ap1 {c n : Nat → Int32} {l m r : Nat} {x : Int32} {post : Int32 → Prop} (hl : l < 2) (hn : n l = nI m) (hm : m ≤ 64) (hr : r < m) (e : c (64 * l + r) = x) (hp : post 1) : wpX_isAtPlace post (c, n) (nI l) (nI r) x :=
  ⟨rv_v hl, pk_le m r (fun z => absurd z (by omega)) (fun _ => ⟨rv_xi hl (by omega), br_t (by rw [rv_xc hl (by omega)]; exact e) hp⟩) (rv_n hl hn)⟩
theorem rv_ap0 {c n : Nat → Int32} {l m r : Nat} {x : Int32} {post : Int32 → Prop} (hl : l < 2) (hn : n l = nI m) (hm : m ≤ 64) (hr : r ≤ m) (e : r < m → ¬ c (64 * l + r) = x) (hp : post 0) : wpX_isAtPlace post (c, n) (nI l) (nI r) x :=
  ⟨rv_v hl, pk_le m r (fun _ => hp) (fun z => ⟨rv_xi hl (by omega), br_f (by rw [rv_xc hl (by omega)]; exact e z) hp⟩) (rv_n hl hn)⟩
/-! has, seek -/
theorem rv_hL1 {c n : Nat → Int32} {l m : Nat} {x : Int32} {post : Int32 → Prop} (hl : l < 2) (hn : n l = nI m) (hm : m ≤ 64) (hp : post 1) : ∀ d j, j + d = m → (∃ i, j ≤ i ∧ i < m ∧ c (64 * l + i) = x) → wY_has_12 post (nI l) x c n (d + 1) (nI j) := by
  intro d
  induction d with
  | zero =>
    rintro j hj ⟨i, h1, h2, h3⟩
    omega
  | succ d ih =>
    rintro j hj ⟨i, h1, h2, h3⟩
    have h6 : j < 64 := by omega
    refine ⟨rv_v hl, pk_le m j (fun z => absurd z (by omega)) (fun _ => ⟨rv_yi hl h6, ?_⟩) (rv_n hl hn)⟩
    rw [rv_yc hl h6]
    refine br_c (fun _ => hp) (fun hx => nm_r (nI_1 j) (ih (j + 1) (by omega) ⟨i, ?_, h2, h3⟩))
    have : i ≠ j := fun e => hx (e ▸ h3)
    omega
theorem rv_hL0 {c n : Nat → Int32} {l m : Nat} {x : Int32} {post : Int32 → Prop} (hl : l < 2) (hn : n l = nI m) (hm : m ≤ 64) (h : ∀ i, i < m → ¬ c (64 * l + i) = x) (hp : post 0) : ∀ d j, j + d = m → wY_has_12 post (nI l) x c n (d + 1) (nI j) := by
  intro d
  induction d with
  | zero =>
    intro j hj
    exact ⟨rv_v hl, pk_le m j (fun _ => hp) (fun z => absurd z (by omega)) (rv_n hl hn)⟩
  | succ d ih =>
    intro j hj
    have h6 : j < 64 := by omega
    exact ⟨rv_v hl, pk_le m j (fun z => absurd z (by omega)) (fun _ => ⟨rv_yi hl h6, br_f (by rw [rv_yc hl h6]; exact h j (by omega)) (nm_r (nI_1 j) (ih (j + 1) (by omega)))⟩) (rv_n hl hn)⟩
theorem rv_h1 {c n : Nat → Int32} {l m r : Nat} {x : Int32} {post : Int32 → Prop} (hl : l < 2) (hn : n l = nI m) (hm : m ≤ 64) (hr : r < m) (e : c (64 * l + r) = x) (hp : post 1) : wpY_has post (c, n) (nI l) x := by
  unfold wpY_has
  dsimp only
  exact rv_yl hl (br_f (by decide) ⟨m + 1, rv_hL1 hl hn hm hp m 0 (Nat.zero_add m) ⟨r, Nat.zero_le _, hr, e⟩⟩)
theorem rv_h0 {c n : Nat → Int32} {l m : Nat} {x : Int32} {post : Int32 → Prop} (hl : l < 2) (hn : n l = nI m) (hm : m ≤ 64) (h : ∀ i, i < m → ¬ c (64 * l + i) = x) (hp : post 0) : wpY_has post (c, n) (nI l) x := by
  unfold wpY_has
  dsimp only
  exact rv_yl hl (br_f (by decide) ⟨m + 1, rv_hL0 hl hn hm h hp m 0 (Nat.zero_add m)⟩)
/-- not at the place of the first great enough: nowhere -/
theorem rv_no {c : Nat → Int32} {l m r : Nat} {x : Int32} (hL : rv_L c l m) (h2 : ∀ i, i < r → ¬ x ≤ c (64 * l + i)) (h3 : r < m → x ≤ c (64 * l + r)) (h : r < m → ¬ c (64 * l + r) = x) : ∀ i, i < m → ¬ c (64 * l + i) = x := by
  intro i hi e
  by_cases h4 : i < r
  · exact h2 i h4 (e ▸ Int32.le_refl _)
  · by_cases h5 : i = r
    · subst h5; exact h hi e
    · have a := hL.2.2 r i (by omega) hi
      have b := h3 (by omega)
      rw [Int32.le_iff_toInt_le] at b
      rw [e] at a
      omega
theorem rv_n1 : narrow .boolean (.int 1) = .int 1 := lw_bz_n 1
theorem rv_n0 : narrow .boolean (.int 0) = .int 0 := lw_bz_n 0
theorem rv_mem {c n : Nat → Int32} {l m : Nat} (x : Int32) (hl : l < 2) (hn : n l = nI m) (hL : rv_L c l m) : ∃ b : Int32, (b = 0 ∨ b = 1) ∧ (∀ post : Int32 → Prop, post b → wpX_contains post (c, n) (nI l) x) ∧ (∀ post : Int32 → Prop, post b → wpY_has post (c, n) (nI l) x) := by
  obtain ⟨r, h1, h2, h3, h4⟩ := rv_cb (c := c) x hl hn hL.1
  by_cases h : r < m ∧ c (64 * l + r) = x
  · refine ⟨1, Or.inr rfl, fun post hp => ?_, fun post hp => rv_h1 hl hn hL.1 h.1 h.2 hp⟩
    unfold wpX_contains
    dsimp only
    exact h4 _ (rv_ap1 hl hn hL.1 h.1 h.2 ⟨rv_n1, hp⟩)
  · have h' : r < m → ¬ c (64 * l + r) = x := fun a b => h ⟨a, b⟩
    refine ⟨0, Or.inl rfl, fun post hp => ?_, fun post hp => rv_h0 hl hn hL.1 (rv_no hL h2 h3 h') hp⟩
    unfold wpX_contains
    dsimp only
    exact h4 _ (rv_ap0 hl hn hL.1 h1 h' ⟨rv_n0, hp⟩)
theorem rv_skL {c n : Nat → Int32} {l m r : Nat} {x : Int32} {post : Int32 → Prop} (hl : l < 2) (hn : n l = nI m) (hm : m ≤ 64) (hr : r ≤ m) (h2 : ∀ i, i < r → ¬ x ≤ c (64 * l + i)) (h3 : r < m → x ≤ c (64 * l + r)) (p1 : r < m → post (nI r)) (p2 : m ≤ r → post (-4)) : ∀ d j, j + d = r → wY_seek_12 post (nI l) x c n (d + 1) (nI j) := by
  intro d
  induction d with
  | zero =>
    intro j hj
    obtain rfl : j = r := hj
    exact ⟨rv_v hl, pk_le m j (fun z => p2 z) (fun z => ⟨rv_yi hl (by omega), br_f (by rw [rv_yc hl (by omega)]; exact Int32.not_lt.mpr (h3 z)) (p1 z)⟩) (rv_n hl hn)⟩
  | succ d ih =>
    intro j hj
    have h6 : j < 64 := by omega
    exact ⟨rv_v hl, pk_le m j (fun z => absurd z (by omega)) (fun _ => ⟨rv_yi hl h6, br_t (by rw [rv_yc hl h6]; exact Int32.not_le.mp (h2 j (by omega))) (nm_r (nI_1 j) (ih (j + 1) (by omega)))⟩) (rv_n hl hn)⟩
theorem rv_sk {c n : Nat → Int32} {l m r : Nat} {x : Int32} {post : Int32 → Prop} (hl : l < 2) (hn : n l = nI m) (hm : m ≤ 64) (hr : r ≤ m) (h2 : ∀ i, i < r → ¬ x ≤ c (64 * l + i)) (h3 : r < m → x ≤ c (64 * l + r)) (p1 : r < m → post (nI r)) (p2 : m ≤ r → post (-4)) : wpY_seek post (c, n) (nI l) x := by
  unfold wpY_seek
  dsimp only
  exact rv_yl hl (br_f (by decide) ⟨r + 1, rv_skL hl hn hm hr h2 h3 p1 p2 r 0 (Nat.zero_add r)⟩)
