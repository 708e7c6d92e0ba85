/-! remove, clear -/
def rv_sd (c : Nat → Int32) (b r M : Nat) : Nat → Int32 := fun q => if b + r ≤ q ∧ q < b + M then c (q + 1) else c q
theorem rv_sd0 (c : Nat → Int32) (b M : Nat) : rv_sd c b M M = c := by
  funext q
  unfold rv_sd
  rw [if_neg (by omega)]
theorem rv_sdS (c : Nat → Int32) (b r M : Nat) (h : r < M) : rv_sd (upd c (b + r) (c (b + (r + 1)))) b (r + 1) M = rv_sd c b r M := by
  funext q
  unfold rv_sd upd
  by_cases h1 : b + (r + 1) ≤ q ∧ q < b + M
  · rw [if_pos h1, if_neg (by omega), if_pos (by omega)]
  · rw [if_neg h1]
    by_cases h2 : q = b + r
    · rw [if_pos h2, if_pos (by omega)]
      exact congrArg c (by omega)
    · rw [if_neg h2, if_neg (by omega)]
theorem rv_clL {n : Nat → Int32} {l M : Nat} {post : SX → Prop} (hl : l < 2) (hn : n l = nI M) (hM : M < 64) : ∀ d r (c : Nat → Int32), r + d = M → post (rv_sd c (64 * l) r M, n) → wX_closePlace_18 post (nI l) (nI l * 64) (d + 1) (nI r) c n := by
  intro d
  induction d with
  | zero =>
    intro r c e hp
    obtain rfl : r = M := e
    rw [rv_sd0] at hp
    exact ⟨rv_v hl, pk_le r r (fun _ => hp) (fun z => absurd z (by omega)) (rv_n hl hn)⟩
  | succ d ih =>
    intro r c e hp
    refine ⟨rv_v hl, pk_le M r (fun z => absurd z (by omega)) (fun _ => ⟨rv_xsi hl (by omega), rv_xi hl (by omega), nm_r (e' := upd c (64 * l + r) (c (64 * l + (r + 1)))) (by rw [rv_xc hl (by omega), rv_xsc hl (by omega)]) (nm_r (nI_1 r) (ih (r + 1) _ (by omega) ?_))⟩) (rv_n hl hn)⟩
    rw [rv_sdS c _ r M (by omega)]
    exact hp
theorem rv_reL {n : Nat → Int32} {l M : Nat} {R : Int32} {post : Int32 → SY → Prop} (hl : l < 2) (hn : n l = nI (M + 1)) (hM : M < 64) : ∀ d r (c : Nat → Int32), r + d = M → post R (rv_sd c (64 * l) r M, upd n l (nI M)) → wY_remove_34 post (nI l) R (d + 1) (nI (r + 1)) c n := by
  intro d
  induction d with
  | zero =>
    intro r c e hp
    obtain rfl : r = M := e
    rw [rv_sd0] at hp
    exact ⟨rv_v hl, pk_le (r + 1) (r + 1) (fun _ => ⟨rv_v hl, rv_v hl, nm_r (by rw [rv_n hl hn, rv_c hl, nI_pred]) hp⟩) (fun z => absurd z (by omega)) (rv_n hl hn)⟩
  | succ d ih =>
    intro r c e hp
    refine ⟨rv_v hl, pk_le (M + 1) (r + 1) (fun z => absurd z (by omega)) (fun _ => ⟨rv_yi hl (by omega), rv_ypi hl (by omega), nm_r (e' := upd c (64 * l + r) (c (64 * l + (r + 1)))) (by rw [rv_yc hl (by omega), rv_ypc hl (by omega)]) (nm_r (nI_1 (r + 1)) (ih (r + 1) _ (by omega) ?_))⟩) (rv_n hl hn)⟩
    rw [rv_sdS c _ r M (by omega)]
    exact hp
theorem rv_Lre {c : Nat → Int32} {l M r : Nat} (hL : rv_L c l (M + 1)) (hr : r ≤ M) : rv_L (rv_sd c (64 * l) r M) l M := by
  obtain ⟨a1, a2, a3⟩ := hL
  have e : ∀ i, i < M → rv_sd c (64 * l) r M (64 * l + i) = c (64 * l + (if r ≤ i then i + 1 else i)) := fun i hi => by
    unfold rv_sd
    by_cases h : r ≤ i
    · rw [if_pos (by omega), if_pos h]
      exact congrArg c (by omega)
    · rw [if_neg (by omega), if_neg h]
  refine ⟨by omega, fun i hi => ?_, fun i j hi hj => ?_⟩
  · rw [e i hi]
    exact a2 _ (by split <;> omega)
  · rw [e i (by omega), e j hj]
    exact a3 _ _ (by split <;> split <;> omega) (by split <;> omega)
theorem rv_okre {c n : Nat → Int32} {l M r : Nat} (hok : rv_ok c n) (hl : l < 2) (hL : rv_L c l (M + 1)) (hr : r ≤ M) : rv_ok (rv_sd c (64 * l) r M) (upd n l (nI M)) :=
  rv_put hok hl (fun q hq => if_neg (by have := hL.1; omega)) (rv_Lre hL hr)
theorem i_vc_remove {k : Nat} {u : SX} {v : SY} (I : i_Rel k u v) (hk : k + 4 ≤ 2048) (v1 : Int32) (v2 : Int32) : wpX_remove (fun r u' => wpY_remove (fun r' v' => r' = r ∧ i_Rel (k + 4) u' v') v v1 v2) u v1 v2 := by
  obtain ⟨c, n, rfl, rfl, hok⟩ := rv_I I
  unfold wpX_remove wpY_remove
  dsimp only
  rcases rv_isl v1 with ⟨l, hl, rfl⟩ | ⟨hX, hY⟩
  · obtain ⟨m, hn, hL⟩ := rv_get hok hl
    obtain ⟨r, h1, h2, h3, h4⟩ := rv_cb (c := c) v2 hl hn hL.1
    refine rv_xl hl (br_f rv_10 (h4 _ ?_))
    by_cases h : r < m ∧ c (64 * l + r) = v2
    · refine rv_ap1 hl hn hL.1 h.1 h.2 (br_f rv_10 ?_)
      obtain ⟨M, rfl⟩ : ∃ M, m = M + 1 := ⟨m - 1, by omega⟩
      have hm := hL.1
      unfold wpX_closePlace
      dsimp only
      refine nm_e ⟨rv_v hl, rv_v hl, nm_r (e' := upd n l (nI M)) (by rw [rv_n hl hn, rv_c hl, nI_pred]) ⟨(M - r) + 1, rv_clL hl pk_us (by omega) (M - r) r c (by omega) ?_⟩⟩
      refine rv_yl hl (br_f rv_10 (rv_h1 hl hn hL.1 h.1 h.2 (br_f rv_10 (rv_sk hl hn hL.1 h1 h2 h3 (fun _ => ?_) (fun z => absurd z (by omega))))))
      exact nm_r (nI_1 r) ⟨(M - r) + 1, rv_reL hl hn (by omega) (M - r) r c (by omega) ⟨rfl, rfl, rv_okre hok hl hL (by omega)⟩⟩
    · have h' : r < m → ¬ c (64 * l + r) = v2 := fun a b => h ⟨a, b⟩
      refine rv_ap0 hl hn hL.1 h1 h' (br_t rfl ?_)
      exact rv_yl hl (br_f rv_10 (rv_h0 hl hn hL.1 (rv_no hL h2 h3 h') (br_t rfl ⟨rfl, rfl, hok⟩)))
  · exact hX _ (br_t rfl (hY _ c n (br_t rfl ⟨rfl, rfl, hok⟩)))
theorem i_vc_clear {k : Nat} {u : SX} {v : SY} (I : i_Rel k u v) (hk : k + 4 ≤ 2048) (v1 : Int32) : wpX_clear (fun r u' => wpY_clear (fun r' v' => r' = r ∧ i_Rel (k + 4) u' v') v v1) u v1 := by
  obtain ⟨c, n, rfl, rfl, hok⟩ := rv_I I
  unfold wpX_clear wpY_clear
  dsimp only
  rcases rv_isl v1 with ⟨l, hl, rfl⟩ | ⟨hX, hY⟩
  · refine rv_xl hl (br_f rv_10 ⟨rv_v hl, nm_e ⟨rv_v hl, nm_e ?_⟩⟩)
    refine rv_yl hl (br_f rv_10 ⟨rv_v hl, nm_e ⟨rv_v hl, nm_e ⟨rfl, rfl, ?_⟩⟩⟩)
    show rv_ok c (upd n (nI l).toNatClampNeg 0)
    rw [rv_c hl, ← nI_0]
    exact rv_put hok hl (fun _ _ => rfl) (rv_L0 c l)
  · exact hX _ (br_t rfl (hY _ c n (br_t rfl ⟨rfl, rfl, hok⟩)))
