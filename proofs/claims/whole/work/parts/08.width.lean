/-! the width of a code, the code at a place, the size of a block at a base -/
theorem rv_wx {q r : Nat} {post : Int32 → Prop} (hq : q < 2 ^ 20) (hr : r ≤ 20) (h1 : ∀ j, j < r → ¬ q < 2 ^ j) (h2 : q < 2 ^ r) (hp : post (nI r)) : ∀ d j, j + d = r → wX_widthOf_2 post (nI q) (d + 1) (nI j) := by
  intro d
  induction d with
  | zero =>
    intro j e
    obtain rfl : j = r := e
    refine br_f (nI_ge (b := 31) (by omega) (by decide)) (br_t ?_ hp)
    rw [pk_shrN (by omega) _ j (s_l j (by omega)), Nat.div_eq_of_lt h2, nI_0]
  | succ d ih =>
    intro j e
    refine br_f (nI_ge (b := 31) (by omega) (by decide)) (br_f ?_ (nm_r (nI_1 j) (ih (j + 1) (by omega))))
    rw [pk_shrN (by omega) _ j (s_l j (by omega))]
    have h := h1 j (by omega)
    have hd : 0 < q / 2 ^ j := Nat.div_pos (by omega) (Nat.two_pow_pos j)
    have hle : q / 2 ^ j ≤ q := Nat.div_le_self _ _
    exact nI_ne0 hd (by omega)
theorem rv_p20 {r : Nat} (hr : r ≤ 20) : 2 ^ r ≤ 2 ^ 20 := Nat.pow_le_pow_right (by decide) hr
theorem rv_1sh {r : Nat} (hr : r ≤ 20) : (1 : Int32) <<< (nI r &&& 31) = nI (2 ^ r) := by
  have h := pk_shlN (n := 1) (nI r &&& 31) r (s_l r (by omega)) (by have := rv_p20 hr; omega)
  rw [Nat.one_mul] at h
  exact h
theorem rv_wy {c n : Nat → Int32} {q r : Nat} {post : Int32 → Prop} (hq : q < 2 ^ 20) (hr : r ≤ 20) (h1 : ∀ j, j < r → ¬ q < 2 ^ j) (h2 : q < 2 ^ r) (hp : post (nI r)) : ∀ d j, j + d = r → wY_widthOf_2 post (nI q) c n (d + 1) (nI j) := by
  intro d
  induction d with
  | zero =>
    intro j e
    obtain rfl : j = r := e
    refine br_c (fun _ => hp) (fun _ => br_t ?_ hp)
    have := rv_p20 hr
    rw [rv_1sh hr]
    exact nI_lt h2 (by omega)
  | succ d ih =>
    intro j e
    refine br_f (nI_ge (b := 20) (by omega) (by decide)) (br_f ?_ (nm_r (nI_1 j) (ih (j + 1) (by omega))))
    rw [rv_1sh (by omega)]
    have h := h1 j (by omega)
    exact nI_nlt (by omega) (by omega)
theorem rv_w {q : Nat} (hq : q < 2 ^ 20) : ∃ w : Int32, (∀ post : Int32 → Prop, post w → wpX_widthOf post (nI q)) ∧ (∀ (post : Int32 → Prop) (c n : Nat → Int32), post w → wpY_widthOf post (c, n) (nI q)) := by
  obtain ⟨r, h2, h1⟩ := pk_least (fun r => q < 2 ^ r) ⟨20, hq⟩
  have hr : r ≤ 20 := Nat.le_of_not_lt fun z => h1 20 z hq
  exact ⟨nI r, fun post hp => ⟨r + 1, rv_wx hq hr h1 h2 hp r 0 (Nat.zero_add r)⟩, fun post c n hp => ⟨r + 1, rv_wy hq hr h1 h2 hp r 0 (Nat.zero_add r)⟩⟩
theorem rv_code_in {a b : Int32} (ha : a.toInt ≤ 1000000) (hb : -1 ≤ b.toInt) (h : b.toInt < a.toInt) : ∃ q, q < 2 ^ 20 ∧ a - b - 1 = nI q := by
  have e : (a - b - 1).toInt = a.toInt - b.toInt - 1 := by
    rw [Int32.toInt_sub, Int32.toInt_sub, show (1 : Int32).toInt = 1 from by decide, Int.bmod_eq_of_le (n := a.toInt - b.toInt) (by omega) (by omega)]
    exact Int.bmod_eq_of_le (by omega) (by omega)
  have h0 : ¬ a - b - 1 < 0 := by
    rw [Int32.lt_iff_toInt_lt, e, show (0 : Int32).toInt = 0 from by decide]
    omega
  obtain ⟨q, hq, e2⟩ := nI_of h0
  refine ⟨q, ?_, e2⟩
  rw [e2, nI_toInt hq] at e
  omega
theorem rv_code {c n : Nat → Int32} {l m p : Nat} (hl : l < 2) (hL : rv_L c l m) (hp : p < m) : ∃ w : Int32, (∀ post : Int32 → Prop, post w → wpX_codeAt (fun r => wpX_widthOf post r) (c, n) (nI l) (nI p)) ∧ (∀ post : Int32 → Prop, post w → wpY_codeAt (fun r => wpY_widthOf post (c, n) r) (c, n) (nI l) (nI p)) := by
  have hm := hL.1
  have hlt : -1 ≤ (rv_b c l p).toInt ∧ (rv_b c l p).toInt < (c (64 * l + p)).toInt := by
    have a := hL.2.1 p hp
    cases p with
    | zero =>
      have e : (rv_b c l 0).toInt = -1 := by
        show (-1 : Int32).toInt = -1
        decide
      rw [e]
      omega
    | succ i =>
      have b := hL.2.1 i (by omega)
      have d := hL.2.2 i (i + 1) (by omega) hp
      show -1 ≤ (c (64 * l + i)).toInt ∧ (c (64 * l + i)).toInt < _
      omega
  obtain ⟨q, hq, e⟩ := rv_code_in (hL.2.1 p hp).2 hlt.1 hlt.2
  obtain ⟨w, h1, h2⟩ := rv_w hq
  refine ⟨w, fun post hw => ⟨rv_xi hl (by omega), rv_xb hl (by omega) ?_⟩, fun post hw => ?_⟩
  · rw [rv_xc hl (by omega), e]
    exact h1 post hw
  · cases p with
    | zero =>
      refine br_t nI_0 ⟨rv_yi hl (by omega), ?_⟩
      rw [rv_yc hl (by omega)]
      have e : c (64 * l + 0) - (-1) - 1 = nI q := e
      rw [e]
      exact h2 post c n hw
    | succ i =>
      refine br_f (nI_ne0 (by omega) (by omega)) ⟨rv_ypi hl (by omega), rv_yi hl (by omega), ?_⟩
      rw [rv_yc hl (by omega), rv_ypc hl (by omega)]
      have e : c (64 * l + (i + 1)) - c (64 * l + i) - 1 = nI q := e
      rw [e]
      exact h2 post c n hw
theorem rv_8 : (8 : Int32) = nI 8 := by decide
theorem rv_8b (b : Nat) : 8 * nI b = nI (8 * b) := by rw [rv_8, pk_mul]
theorem rv_b8 (b : Nat) : nI b * 8 = nI (8 * b) := by rw [rv_8, pk_mul, Nat.mul_comm]
theorem rv_88 (b : Nat) : 8 * nI b + 8 = nI (8 * b + 8) := by rw [rv_8, pk_mul, nI_add]
theorem rv_b18 (b : Nat) : (nI b + 1) * 8 = nI (8 * b + 8) := by rw [nI_1, rv_b8, Nat.mul_add]
theorem rv_szL {c n : Nat → Int32} {l m b E : Nat} (W : Int32) (hl : l < 2) (hn : n l = nI m) (hL : rv_L c l m) (hb : 8 * b < m) (h1 : E ≤ m) (h2 : E ≤ 8 * b + 8) (h3 : E = m ∨ E = 8 * b + 8) : ∀ d j (x : Int32), j + d = E → ∃ r : Int32, (∀ post : Int32 → Prop, post r → wX_sizeAtBase_18 post (nI l) W (nI E) c n (d + 1) x (nI j)) ∧ (∀ post : Int32 → Prop, post r → wY_sizeAt_10 post (nI l) (nI b) W c n (d + 1) x (nI j)) := by
  have hm := hL.1
  intro d
  induction d with
  | zero =>
    intro j x e
    exact ⟨x, fun post hp => br_t (nI_le (by omega) (by omega)) hp, fun post hp => pk_le (8 * b + 8) j (fun _ => hp) (fun _ => ⟨rv_v hl, pk_le m j (fun _ => hp) (fun z => absurd z (by omega)) (rv_n hl hn)⟩) (rv_88 b)⟩
  | succ d ih =>
    intro j x e
    obtain ⟨w, g1, g2⟩ := rv_code (n := n) hl hL (p := j) (by omega)
    by_cases hw : W < w
    · obtain ⟨r, i1, i2⟩ := ih (j + 1) (x + ((W + 8) + (w - W))) (by omega)
      refine ⟨r, fun post hp => br_f (nI_ge (by omega) (by omega)) (g1 _ (br_t hw (nm_e (nm_r (nI_1 j) (i1 post hp))))), fun post hp => pk_le (8 * b + 8) j (fun z => absurd z (by omega)) (fun _ => ⟨rv_v hl, pk_le m j (fun z => absurd z (by omega)) (fun _ => g2 _ (br_t hw (nm_r ?_ (nm_r (nI_1 j) (i2 post hp))))) (rv_n hl hn)⟩) (rv_88 b)⟩
      grind
    · obtain ⟨r, i1, i2⟩ := ih (j + 1) (x + W) (by omega)
      exact ⟨r, fun post hp => br_f (nI_ge (by omega) (by omega)) (g1 _ (br_f hw (nm_e (nm_r (nI_1 j) (i1 post hp))))), fun post hp => pk_le (8 * b + 8) j (fun z => absurd z (by omega)) (fun _ => ⟨rv_v hl, pk_le m j (fun z => absurd z (by omega)) (fun _ => g2 _ (br_f hw (nm_e (nm_r (nI_1 j) (i2 post hp))))) (rv_n hl hn)⟩) (rv_88 b)⟩
theorem rv_be {c n : Nat → Int32} {l m b : Nat} (hl : l < 2) (hn : n l = nI m) (hm : m ≤ 64) (hb : 8 * b < m) : ∃ E, E ≤ m ∧ E ≤ 8 * b + 8 ∧ (E = m ∨ E = 8 * b + 8) ∧ ∀ post : Int32 → Prop, post (nI E) → wpX_blockEnd post (c, n) (nI l) (nI b) := by
  by_cases h : m ≤ 8 * b + 8
  · refine ⟨m, Nat.le_refl m, h, Or.inl rfl, fun post hp => nm_r (rv_b18 b) ⟨rv_v hl, pk_le m (8 * b + 8) (fun _ => ⟨rv_v hl, ?_⟩) (fun z => absurd z (by omega)) (rv_n hl hn)⟩⟩
    rw [rv_n hl hn]
    exact hp
  · exact ⟨8 * b + 8, by omega, Nat.le_refl _, Or.inr rfl, fun post hp => nm_r (rv_b18 b) ⟨rv_v hl, pk_le m (8 * b + 8) (fun z => absurd z (by omega)) (fun _ => hp) (rv_n hl hn)⟩⟩
theorem rv_size {c n : Nat → Int32} {l m b : Nat} (hl : l < 2) (hn : n l = nI m) (hL : rv_L c l m) (hb : 8 * b < m) (W : Int32) : ∃ r : Int32, (∀ post : Int32 → Prop, post r → wpX_sizeAtBase post (c, n) (nI l) (nI b) W) ∧ (∀ post : Int32 → Prop, post r → wpY_sizeAt post (c, n) (nI l) (nI b) W) := by
  obtain ⟨E, h1, h2, h3, h4⟩ := rv_be (c := c) hl hn hL.1 hb
  obtain ⟨r, g1, g2⟩ := rv_szL W hl hn hL hb h1 h2 h3 (E - 8 * b) (8 * b) 9 (by omega)
  refine ⟨r, fun post hp => ?_, fun post hp => nm_r (rv_8b b) ⟨_, g2 post hp⟩⟩
  unfold wpX_sizeAtBase
  dsimp only
  exact h4 _ (nm_r (rv_b8 b) ⟨_, g1 post hp⟩)
