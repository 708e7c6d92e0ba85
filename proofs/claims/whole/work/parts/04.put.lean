/-! the number before a place, the last number, putting one at the end; append, run -/
def rv_b (c : Nat → Int32) (l : Nat) : Nat → Int32
  | 0 => -1
  | p + 1 => c (64 * l + p)
theorem rv_xb {c n : Nat → Int32} {l p : Nat} {post : Int32 → Prop} (hl : l < 2) (hp : p ≤ 64) (h : post (rv_b c l p)) : wpX_numberBefore post (c, n) (nI l) (nI p) := by
  cases p with
  | zero => exact br_t (by decide) h
  | succ p =>
    refine br_f (nI_nle (by omega) (by omega)) ⟨rv_xpi hl (by omega), ?_⟩
    rw [rv_xpc hl (by omega)]
    exact h
theorem rv_ln {c n : Nat → Int32} {l m : Nat} {post : Int32 → Prop} (hl : l < 2) (hn : n l = nI m) (hm : m ≤ 64) (h : post (rv_b c l m)) : wpX_lastNumber post (c, n) (nI l) := by
  refine ⟨rv_v hl, ?_⟩
  rw [rv_n hl hn]
  exact rv_xb hl hm h
theorem rv_lo {c n : Nat → Int32} {l m : Nat} {post : Int32 → Prop} (hl : l < 2) (hn : n l = nI m) (hm : m ≤ 64) (h : post (rv_b c l m)) : wpY_lastOf post (c, n) (nI l) := by
  refine ⟨rv_v hl, ?_⟩
  rw [rv_n hl hn]
  cases m with
  | zero => exact br_t nI_0 h
  | succ p =>
    refine br_f (nI_ne0 (by omega) (by omega)) ⟨rv_v hl, rv_ypi hl (by omega), ?_⟩
    rw [rv_ypc hl (by omega)]
    exact h
theorem rv_xput {c n : Nat → Int32} {l m : Nat} {x : Int32} {post : SX → Prop} (hl : l < 2) (hn : n l = nI m) (hm : m < 64) (h : post (upd c (64 * l + m) x, upd n l (nI (m + 1)))) : wpX_putLast post (c, n) (nI l) x := by
  unfold wpX_putLast
  dsimp only
  rw [rv_n hl hn, rv_xc hl hm, rv_c hl, nI_1 m]
  exact ⟨rv_v hl, rv_xi hl hm, nm_e ⟨rv_v hl, rv_v hl, nm_e h⟩⟩
theorem rv_yput {c n : Nat → Int32} {l m : Nat} {x : Int32} {post : SY → Prop} (hl : l < 2) (hn : n l = nI m) (hm : m < 64) (h : post (upd c (64 * l + m) x, upd n l (nI (m + 1)))) : wpY_put post (c, n) (nI l) x := by
  unfold wpY_put
  dsimp only
  rw [rv_n hl hn, rv_yc hl hm, rv_c hl, nI_1 m]
  exact ⟨rv_v hl, rv_yi hl hm, nm_e ⟨rv_v hl, rv_v hl, nm_e h⟩⟩
theorem rv_b_lt {c : Nat → Int32} {l m : Nat} {x : Int32} (hL : rv_L c l m) (h : (rv_b c l m).toInt < x.toInt) {i : Nat} (hi : i < m) : (c (64 * l + i)).toInt < x.toInt := by
  cases m with
  | zero => omega
  | succ p =>
    have h : (c (64 * l + p)).toInt < x.toInt := h
    by_cases e : i = p
    · subst e; exact h
    · have := hL.2.2 i p (by omega) (by omega)
      omega
theorem rv_Lput {c : Nat → Int32} {l m : Nat} {x : Int32} (hL : rv_L c l m) (hm : m < 64) (hx : 0 ≤ x.toInt ∧ x.toInt ≤ 1000000) (h : (rv_b c l m).toInt < x.toInt) : rv_L (upd c (64 * l + m) x) l (m + 1) := by
  refine ⟨by omega, fun i hi => ?_, fun i j hi hj => ?_⟩
  · by_cases e : i = m
    · subst e; rw [pk_us]; exact hx
    · rw [pk_un (by omega)]; exact hL.2.1 i (by omega)
  · rw [pk_un (j := 64 * l + i) (by omega)]
    by_cases e : j = m
    · subst e; rw [pk_us]; exact rv_b_lt hL h (by omega)
    · rw [pk_un (by omega)]; exact hL.2.2 i j hi (by omega)
theorem rv_okput {c n : Nat → Int32} {l m : Nat} {x : Int32} (hok : rv_ok c n) (hl : l < 2) (hL : rv_L c l m) (hm : m < 64) (hx : 0 ≤ x.toInt ∧ x.toInt ≤ 1000000) (h : (rv_b c l m).toInt < x.toInt) : rv_ok (upd c (64 * l + m) x) (upd n l (nI (m + 1))) :=
  rv_put hok hl (fun q hq => pk_un (by omega)) (rv_Lput hL hm hx h)
theorem rv_10 : ¬ (1 : Int32) = 0 := by decide
theorem i_vc_append {k : Nat} {u : SX} {v : SY} (I : i_Rel k u v) (hk : k + 4 ≤ 2048) (v1 : Int32) (v2 : Int32) : wpX_append (fun r u' => wpY_append (fun r' v' => r' = r ∧ i_Rel (k + 4) u' v') v v1 v2) u v1 v2 := by
  obtain ⟨c, n, rfl, rfl, hok⟩ := rv_I I
  unfold wpX_append wpY_append
  dsimp only
  rcases rv_isl v1 with ⟨l, hl, rfl⟩ | ⟨hX, hY⟩
  · rcases rv_isn v2 with ⟨hr, hX, hY⟩ | ⟨hX, hY⟩
    · obtain ⟨m, hn, hL⟩ := rv_get hok hl
      refine rv_xl hl (br_f rv_10 (hX _ (br_f rv_10 (rv_ln hl hn hL.1 ?_))))
      by_cases h : rv_b c l m < v2
      · by_cases h6 : m < 64
        · refine br_t h ⟨rv_v hl, br_t (by rw [rv_n hl hn]; exact nI_lt (b := 64) h6 (by decide)) (rv_xput hl hn h6 ⟨rv_v hl, ?_⟩)⟩
          refine rv_yl hl (br_f rv_10 (hY _ c n (br_f rv_10 (rv_lo hl hn hL.1 (br_t h ⟨rv_v hl, ?_⟩)))))
          refine br_f (by rw [rv_n hl hn, rv_64, nI_eq (by omega) (by omega)]; omega) (rv_yput hl hn h6 ⟨rv_v hl, rfl, rfl, ?_⟩)
          exact rv_okput hok hl hL h6 hr (Int32.lt_iff_toInt_lt.mp h)
        · have e6 : m = 64 := by have := hL.1; omega
          subst e6
          refine br_t h ⟨rv_v hl, br_f (by rw [rv_n hl hn]; decide) ?_⟩
          refine rv_yl hl (br_f rv_10 (hY _ c n (br_f rv_10 (rv_lo hl hn hL.1 (br_t h ⟨rv_v hl, ?_⟩)))))
          exact br_t (by rw [rv_n hl hn]; decide) ⟨rfl, rfl, hok⟩
      · refine br_f h (rv_yl hl (br_f rv_10 (hY _ c n (br_f rv_10 (rv_lo hl hn hL.1 (br_f h ⟨rfl, rfl, hok⟩))))))
    · exact rv_xl hl (br_f rv_10 (hX _ (br_t rfl (rv_yl hl (br_f rv_10 (hY _ c n (br_t rfl ⟨rfl, rfl, hok⟩)))))))
  · exact hX _ (br_t rfl (hY _ c n (br_t rfl ⟨rfl, rfl, hok⟩)))
/-! run -/
theorem rv_t {La : Int32} {j s : Nat} (h1 : -1 ≤ La.toInt) (h2 : La.toInt ≤ 1000000) (hj : j * s ≤ 64000) : (La + nI j * nI s).toInt = La.toInt + (j * s : Nat) := by
  rw [pk_mul, Int32.toInt_add, nI_toInt (by omega)]
  exact Int.bmod_eq_of_le (by omega) (by omega)
theorem rv_b_in {c : Nat → Int32} {l m : Nat} (hL : rv_L c l m) : -1 ≤ (rv_b c l m).toInt ∧ (rv_b c l m).toInt ≤ 1000000 := by
  cases m with
  | zero =>
    show -1 ≤ (-1 : Int32).toInt ∧ (-1 : Int32).toInt ≤ 1000000
    decide
  | succ p =>
    have := hL.2.1 p (by omega)
    show -1 ≤ (c (64 * l + p)).toInt ∧ (c (64 * l + p)).toInt ≤ 1000000
    omega
theorem rv_runL {l N s : Nat} {La : Int32} (hl : l < 2) (hN : N ≤ 64) (hs : 1 ≤ s) (hs2 : s ≤ 1000) (hLa : -1 ≤ La.toInt ∧ La.toInt ≤ 1000000) (hNs : N * s ≤ 64000) (hb : La.toInt + (N * s : Nat) ≤ 1000000) : ∀ d j (c n : Nat → Int32) m, j + d = N → rv_ok c n → n l = nI m → rv_L c l m → m + d ≤ 64 → rv_b c l m = La + nI j * nI s → ∃ c' n' : Nat → Int32, rv_ok c' n' ∧ (∀ post : Int32 → SX → Prop, post (n' (nI l).toNatClampNeg) (c', n') → wX_run_70 post (nI l) (nI N) (nI s) La (d + 1) (nI (j + 1)) c n) ∧ (∀ post : Int32 → SY → Prop, post (n' (nI l).toNatClampNeg) (c', n') → wY_run_67 post (nI l) (nI N) (nI s) (d + 1) (nI j) c n) := by
  intro d
  induction d with
  | zero =>
    intro j c n m hj hok hn hL hm e
    exact ⟨c, n, hok, fun post hp => br_t (nI_lt (by omega) (by omega)) ⟨rv_v hl, hp⟩, fun post hp => br_t (nI_le (by omega) (by omega)) ⟨rv_v hl, hp⟩⟩
  | succ d ih =>
    intro j c n m hj hok hn hL hm e
    have k1 : (j + 1) * s ≤ N * s := Nat.mul_le_mul_right s (by omega)
    have k2 : (j + 1) * s = j * s + s := Nat.succ_mul j s
    have t1 := rv_t (j := j) (s := s) hLa.1 hLa.2 (by omega)
    have t2 := rv_t (j := j + 1) (s := s) hLa.1 hLa.2 (by omega)
    have hx : 0 ≤ (La + nI (j + 1) * nI s).toInt ∧ (La + nI (j + 1) * nI s).toInt ≤ 1000000 := by
      rw [t2]
      generalize (j + 1) * s = a at *
      generalize N * s = b at *
      generalize j * s = q at *
      omega
    have hlt : (rv_b c l m).toInt < (La + nI (j + 1) * nI s).toInt := by
      rw [t2, e, t1]
      generalize (j + 1) * s = a at *
      generalize j * s = q at *
      omega
    have hL' := rv_Lput hL (by omega) hx hlt
    have hok' := rv_okput hok hl hL (by omega) hx hlt
    obtain ⟨c', n', h1, h2, h3⟩ := ih (j + 1) _ _ (m + 1) (by omega) hok' pk_us hL' (by omega) pk_us
    refine ⟨c', n', h1, fun post hp => br_f (nI_nlt (by omega) (by omega)) (rv_xput hl hn (by omega) (nm_r (nI_1 (j + 1)) (h2 post hp))), fun post hp => br_f (nI_ge (by omega) (by omega)) (rv_lo hl hn (by omega) (nm_r ?_ (rv_yput hl hn (by omega) (nm_r (nI_1 j) (h3 post hp)))))⟩
    rw [e, ← nI_1 j]
    grind
theorem i_vc_run {k : Nat} {u : SX} {v : SY} (I : i_Rel k u v) (hk : k + 4 ≤ 2048) (v1 : Int32) (v2 : Int32) (v3 : Int32) : wpX_run (fun r u' => wpY_run (fun r' v' => r' = r ∧ i_Rel (k + 4) u' v') v v1 v2 v3) u v1 v2 v3 := by
  obtain ⟨c, n, rfl, rfl, hok⟩ := rv_I I
  unfold wpX_run wpY_run
  dsimp only
  rcases rv_isl v1 with ⟨l, hl, rfl⟩ | ⟨hX, hY⟩
  · refine rv_xl hl (br_f rv_10 ?_)
    by_cases a1 : v2 < 0
    · exact br_t a1 (rv_yl hl (br_f rv_10 (br_t a1 ⟨rfl, rfl, hok⟩)))
    by_cases a2 : 64 < v2
    · exact br_f a1 (br_t a2 (rv_yl hl (br_f rv_10 (br_f a1 (br_t a2 ⟨rfl, rfl, hok⟩)))))
    by_cases a3 : v3 < 1
    · exact br_f a1 (br_f a2 (br_t a3 (rv_yl hl (br_f rv_10 (br_f a1 (br_f a2 (br_t a3 ⟨rfl, rfl, hok⟩)))))))
    by_cases a4 : v3 ≤ 1000
    · refine br_f a1 (br_f a2 (br_f a3 (br_t a4 ⟨rv_v hl, ?_⟩)))
      obtain ⟨m, hn, hL⟩ := rv_get hok hl
      by_cases a5 : n (nI l).toNatClampNeg + v2 ≤ 64
      · refine br_t a5 (rv_ln hl hn hL.1 ?_)
        by_cases a6 : rv_b c l m + v2 * v3 ≤ 1000000
        · obtain ⟨N, hN, rfl⟩ := nI_of a1
          have h0 : ¬ v3 < 0 := fun z => a3 (Int32.lt_trans z (by decide))
          obtain ⟨s, hs, rfl⟩ := nI_of h0
          rw [rv_64, nI_ltI (by omega) hN] at a2
          rw [show (1 : Int32) = nI 1 from by decide, nI_ltI hs (by omega)] at a3
          rw [show (1000 : Int32) = nI 1000 from by decide, nI_leI hs (by omega)] at a4
          have hm := hL.1
          have a5' : m + N ≤ 64 := by
            rw [rv_n hl hn, nI_add, rv_64, nI_leI (by omega) (by omega)] at a5
            exact a5
          have hLa := rv_b_in hL
          have hNs : N * s ≤ 64000 := Nat.le_trans (Nat.mul_le_mul (by omega : N ≤ 64) a4) (by decide)
          have a6' := a6
          rw [Int32.le_iff_toInt_le, rv_t hLa.1 hLa.2 hNs, show (1000000 : Int32).toInt = 1000000 from by decide] at a6'
          obtain ⟨c', n', h1, h2, h3⟩ := rv_runL hl (by omega) (by omega : 1 ≤ s) a4 hLa hNs a6' N 0 c n m (Nat.zero_add N) hok hn hL a5' (by rw [nI_0]; grind)
          refine br_t a6 ⟨N + 1, h2 _ ?_⟩
          refine rv_yl hl (br_f rv_10 (br_f a1 ?_))
          refine br_f (by rw [rv_64, nI_ltI (by omega) hN]; exact a2) ?_
          refine br_f (by rw [show (1 : Int32) = nI 1 from by decide, nI_ltI hs (by omega)]; exact a3) ?_
          refine br_t (by rw [show (1000 : Int32) = nI 1000 from by decide, nI_leI hs (by omega)]; exact a4) ⟨rv_v hl, ?_⟩
          exact br_t a5 (rv_lo hl hn hL.1 (br_t a6 ⟨N + 1, h3 _ ⟨rfl, rfl, h1⟩⟩))
        · refine br_f a6 (rv_yl hl (br_f rv_10 (br_f a1 (br_f a2 (br_f a3 (br_t a4 ⟨rv_v hl, ?_⟩))))))
          exact br_t a5 (rv_lo hl hn hL.1 (br_f a6 ⟨rfl, rfl, hok⟩))
      · exact br_f a5 (rv_yl hl (br_f rv_10 (br_f a1 (br_f a2 (br_f a3 (br_t a4 ⟨rv_v hl, br_f a5 ⟨rfl, rfl, hok⟩⟩))))))
    · exact br_f a1 (br_f a2 (br_f a3 (br_f a4 (rv_yl hl (br_f rv_10 (br_f a1 (br_f a2 (br_f a3 (br_f a4 ⟨rfl, rfl, hok⟩)))))))))
  · exact hX _ (br_t rfl (hY _ c n (br_t rfl ⟨rfl, rfl, hok⟩)))
