/-! insert and remove: the cells behind the place move by one -/
def rv_sh (c : Nat → Int32) (b r i : Nat) : Nat → Int32 := fun q => if b + r < q ∧ q ≤ b + i then c (q - 1) else c q
theorem rv_sh0 (c : Nat → Int32) (b r : Nat) : rv_sh c b r r = c := by
  funext q
  unfold rv_sh
  rw [if_neg (by omega)]
theorem rv_shS (c : Nat → Int32) (b r d : Nat) : rv_sh (upd c (b + (r + d + 1)) (c (b + (r + d)))) b r (r + d) = rv_sh c b r (r + d + 1) := by
  funext q
  unfold rv_sh upd
  by_cases h1 : b + r < q ∧ q ≤ b + (r + d)
  · rw [if_pos h1, if_neg (by omega), if_pos (by omega)]
  · rw [if_neg h1]
    by_cases h2 : q = b + (r + d + 1)
    · rw [if_pos h2, if_pos (by omega)]
      exact congrArg c (by omega)
    · rw [if_neg h2, if_neg (by omega)]
theorem rv_opL {n : Nat → Int32} {l m r : Nat} (hl : l < 2) (hn : n l = nI m) : ∀ d (c : Nat → Int32) (post : SX → Prop), r + d < 64 → post (rv_sh c (64 * l) r (r + d), upd n l (nI (m + 1))) → wX_openPlace_13 post (nI l) (nI r) (nI l * 64) (d + 1) (nI (r + d)) c n := by
  intro d
  induction d with
  | zero =>
    intro c post hr hp
    have e : rv_sh c (64 * l) r (r + 0) = c := rv_sh0 c (64 * l) r
    rw [e] at hp
    exact br_t (nI_le (by omega) (by omega)) ⟨rv_v hl, rv_v hl, nm_r (by rw [rv_n hl hn, rv_c hl, nI_1 m]) hp⟩
  | succ d ih =>
    intro c post hr hp
    refine br_f (nI_ge (by omega) (by omega)) ⟨rv_xpi (i := r + d) hl (by omega), rv_xi (i := r + d + 1) hl (by omega), nm_r (e' := upd c (64 * l + (r + d + 1)) (c (64 * l + (r + d)))) ?_ (nm_r (pk_m1 (r + d)) (ih _ post (by omega) ?_))⟩
    · show upd c (nI l * 64 + nI (r + d + 1)).toNatClampNeg (c ((nI l * 64 + nI (r + d + 1)) - 1).toNatClampNeg) = _
      rw [rv_xc hl (by omega), rv_xpc hl (by omega)]
    · rw [rv_shS]
      exact hp
/-- Y's second half: the numbers below the place are only counted -/
theorem rv_inL2 {c n : Nat → Int32} {l m r : Nat} {x : Int32} {post : Int32 → SY → Prop} (hl : l < 2) (hn : n l = nI m) (hr : r < 64) (hc : ∀ i, i < r → c (64 * l + i) ≤ x) (hp : post (nI r) (upd c (64 * l + r) x, upd n l (nI (m + 1)))) : ∀ d p, p + d = r → wY_insert_54 post (nI l) x (d + 1) (nI p) (nI d) c n := by
  intro d
  induction d with
  | zero =>
    intro p e
    obtain rfl : p = r := e
    exact br_t (by decide) ⟨rv_yi hl hr, nm_r (by rw [rv_yc hl hr]) ⟨rv_v hl, rv_v hl, nm_r (by rw [rv_n hl hn, rv_c hl, nI_1 m]) hp⟩⟩
  | succ d ih =>
    intro p e
    exact br_f (nI_nle (by omega) (by omega)) ⟨rv_ypi hl (by omega), br_t (by rw [rv_ypc hl (by omega)]; exact hc d (by omega)) (nm_r (nI_1 p) (nm_r (pk_m1 d) (ih (p + 1) (by omega))))⟩
theorem rv_inL1 {n : Nat → Int32} {l r F : Nat} {x : Int32} {post : Int32 → SY → Prop} (hl : l < 2) : ∀ d (c : Nat → Int32), r + d < 64 → (∀ q, r ≤ q → q < r + d → ¬ c (64 * l + q) ≤ x) → wY_insert_54 post (nI l) x F (nI 0) (nI r) (rv_sh c (64 * l) r (r + d)) n → wY_insert_54 post (nI l) x (F + d) (nI 0) (nI (r + d)) c n := by
  intro d
  induction d with
  | zero =>
    intro c hr hc h
    have e : rv_sh c (64 * l) r (r + 0) = c := rv_sh0 c (64 * l) r
    rw [e] at h
    exact h
  | succ d ih =>
    intro c hr hc h
    have key : wY_insert_54 post (nI l) x (F + d) (nI 0) (nI (r + d)) (upd c (64 * l + (r + d + 1)) (c (64 * l + (r + d)))) n := by
      refine ih _ (by omega) (fun q h1 h2 => ?_) ?_
      · rw [pk_un (by omega)]
        exact hc q h1 (by omega)
      · rw [rv_shS]
        exact h
    refine br_f (nI_nle (n := r + d + 1) (by omega) (by omega)) ⟨rv_ypi (i := r + d) hl (by omega), br_f ?_ ⟨rv_ypi (i := r + d) hl (by omega), rv_yi (i := r + d + 1) hl (by omega), nm_r (e' := upd c (64 * l + (r + d + 1)) (c (64 * l + (r + d)))) ?_ (nm_r (pk_m1 (r + d)) key)⟩⟩
    · show ¬ c ((64 * nI l + nI (r + d + 1)) - 1).toNatClampNeg ≤ x
      rw [rv_ypc hl (by omega)]
      exact hc (r + d) (by omega) (by omega)
    · show upd c (64 * nI l + nI (r + d + 1)).toNatClampNeg (c ((64 * nI l + nI (r + d + 1)) - 1).toNatClampNeg) = _
      rw [rv_yc hl (by omega), rv_ypc hl (by omega)]
/-! the list after an insert -/
theorem rv_inV {c : Nat → Int32} {l m r : Nat} {x : Int32} (i : Nat) : upd (rv_sh c (64 * l) r m) (64 * l + r) x (64 * l + i) = if i = r then x else if r < i ∧ i ≤ m then c (64 * l + (i - 1)) else c (64 * l + i) := by
  unfold upd rv_sh
  by_cases h1 : i = r
  · rw [if_pos (by omega), if_pos h1]
  · rw [if_neg (by omega), if_neg h1]
    by_cases h2 : r < i ∧ i ≤ m
    · rw [if_pos (by omega), if_pos h2]
      exact congrArg c (by omega)
    · rw [if_neg (by omega), if_neg h2]
theorem rv_Lin {c : Nat → Int32} {l m r : Nat} {x : Int32} (hL : rv_L c l m) (hm : m < 64) (hr : r ≤ m) (hx : 0 ≤ x.toInt ∧ x.toInt ≤ 1000000) (h1 : ∀ i, i < r → (c (64 * l + i)).toInt < x.toInt) (h2 : ∀ i, r ≤ i → i < m → x.toInt < (c (64 * l + i)).toInt) : rv_L (upd (rv_sh c (64 * l) r m) (64 * l + r) x) l (m + 1) := by
  obtain ⟨_, a2, a3⟩ := hL
  refine ⟨by omega, fun i hi => ?_, fun i j hi hj => ?_⟩
  · rw [rv_inV]
    by_cases e1 : i = r
    · rw [if_pos e1]; exact hx
    · rw [if_neg e1]
      by_cases e2 : r < i ∧ i ≤ m
      · rw [if_pos e2]; exact a2 _ (by omega)
      · rw [if_neg e2]; exact a2 _ (by omega)
  · rw [rv_inV, rv_inV]
    by_cases e1 : i = r
    · rw [if_pos e1, if_neg (by omega), if_pos (by omega)]
      exact h2 _ (by omega) (by omega)
    · rw [if_neg e1]
      by_cases e2 : r < i ∧ i ≤ m
      · rw [if_pos e2, if_neg (by omega), if_pos (by omega)]
        exact a3 _ _ (by omega) (by omega)
      · rw [if_neg e2]
        by_cases e3 : j = r
        · rw [if_pos e3]
          exact h1 _ (by omega)
        · rw [if_neg e3]
          by_cases e4 : r < j ∧ j ≤ m
          · rw [if_pos e4]
            by_cases e5 : i = j - 1
            · omega
            · exact a3 _ _ (by omega) (by omega)
          · rw [if_neg e4]
            exact a3 _ _ (by omega) (by omega)
theorem rv_out (c : Nat → Int32) (l m r : Nat) (x : Int32) (hm : m < 64) (hr : r ≤ m) (q : Nat) (hq : q < 64 * l ∨ 64 * l + 64 ≤ q) : upd (rv_sh c (64 * l) r m) (64 * l + r) x q = c q := by
  unfold upd rv_sh
  rw [if_neg (by omega), if_neg (by omega)]
theorem i_vc_insert {k : Nat} {u : SX} {v : SY} (I : i_Rel k u v) (hk : k + 4 ≤ 2048) (v1 : Int32) (v2 : Int32) : wpX_insert (fun r u' => wpY_insert (fun r' v' => r' = r ∧ i_Rel (k + 4) u' v') v v1 v2) u v1 v2 := by
  obtain ⟨c, n, rfl, rfl, hok⟩ := rv_I I
  unfold wpX_insert wpY_insert
  dsimp only
  rcases rv_isl v1 with ⟨l, hl, rfl⟩ | ⟨hX, hY⟩
  · rcases rv_isn v2 with ⟨hx, hX, hY⟩ | ⟨hX, hY⟩
    · obtain ⟨m, hn, hL⟩ := rv_get hok hl
      obtain ⟨r, h1, h2, h3, h4⟩ := rv_cb (c := c) v2 hl hn hL.1
      refine rv_xl hl (br_f rv_10 (hX _ (br_f rv_10 (h4 _ ?_))))
      by_cases h : r < m ∧ c (64 * l + r) = v2
      · refine rv_ap1 hl hn hL.1 h.1 h.2 (br_f rv_10 ?_)
        exact rv_yl hl (br_f rv_10 (hY _ c n (br_f rv_10 (rv_h1 hl hn hL.1 h.1 h.2 (br_f rv_10 ⟨rfl, rfl, hok⟩)))))
      · have h' : r < m → ¬ c (64 * l + r) = v2 := fun a b => h ⟨a, b⟩
        have hno := rv_no hL h2 h3 h'
        refine rv_ap0 hl hn hL.1 h1 h' (br_t rfl ⟨rv_v hl, ?_⟩)
        by_cases h6 : m < 64
        · have b1 : ∀ i, i < r → (c (64 * l + i)).toInt < v2.toInt := fun i hi => by
            have := h2 i hi
            rw [Int32.le_iff_toInt_le] at this
            omega
          have b2 : ∀ i, r ≤ i → i < m → v2.toInt < (c (64 * l + i)).toInt := fun i hi hm => by
            have g := h3 (by omega)
            rw [Int32.le_iff_toInt_le] at g
            have g2 : (c (64 * l + r)).toInt ≠ v2.toInt := fun e => h' (by omega) (Int32.toInt_inj.mp e)
            by_cases e : i = r
            · subst e; omega
            · have := hL.2.2 r i (by omega) hm
              omega
          obtain ⟨d, rfl⟩ : ∃ d, m = r + d := ⟨m - r, by omega⟩
          refine br_t (by rw [rv_n hl hn]; exact nI_lt (b := 64) h6 (by decide)) ?_
          unfold wpX_openPlace
          dsimp only
          refine nm_e ⟨rv_v hl, nm_r (rv_n hl hn) ⟨d + 1, rv_opL hl hn d c _ h6 ⟨rv_xi hl (by omega), nm_r (by rw [rv_xc hl (by omega)]) ?_⟩⟩⟩
          refine rv_yl hl (br_f rv_10 (hY _ c n (br_f rv_10 (rv_h0 hl hn hL.1 hno (br_t rfl ⟨rv_v hl, br_f ?_ ⟨rv_v hl, nm_r (rv_n hl hn) ⟨(r + 1) + d, ?_⟩⟩⟩)))))
          · rw [rv_n hl hn, rv_64, nI_eq (by omega) (by omega)]
            omega
          · refine rv_inL1 hl d c h6 (fun q q1 q2 => ?_) (rv_inL2 hl hn (by omega) (fun i hi => ?_) ⟨rfl, rfl, ?_⟩ r 0 (Nat.zero_add r))
            · have := b2 q q1 q2
              rw [Int32.le_iff_toInt_le]
              omega
            · have := b1 i hi
              have e : rv_sh c (64 * l) r (r + d) (64 * l + i) = c (64 * l + i) := if_neg (by omega)
              rw [e, Int32.le_iff_toInt_le]
              omega
            · exact rv_put hok hl (rv_out c l (r + d) r v2 h6 h1) (rv_Lin hL h6 h1 hx b1 b2)
        · have e6 : m = 64 := by have := hL.1; omega
          subst e6
          refine br_f (by rw [rv_n hl hn]; decide) ?_
          exact rv_yl hl (br_f rv_10 (hY _ c n (br_f rv_10 (rv_h0 hl hn hL.1 hno (br_t rfl ⟨rv_v hl, br_t (by rw [rv_n hl hn]; decide) ⟨rfl, rfl, hok⟩⟩)))))
    · exact rv_xl hl (br_f rv_10 (hX _ (br_t rfl (rv_yl hl (br_f rv_10 (hY _ c n (br_t rfl ⟨rfl, rfl, hok⟩)))))))
  · exact hX _ (br_t rfl (hY _ c n (br_t rfl ⟨rfl, rfl, hok⟩)))
