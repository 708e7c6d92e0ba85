/-! size, at, seek, has, sum, blocks, common, commonAt, tail -/
theorem i_vc_size {k : Nat} {u : SX} {v : SY} (I : i_Rel k u v) (hk : k + 4 ≤ 2048) (v1 : Int32) : wpX_size (fun r => wpY_size (fun r' => r' = r ∧ i_Rel (k + 4) u v) v v1) u v1 := by
  have J : i_Rel (k + 4) u v := I
  obtain ⟨c, n, rfl, rfl, hok⟩ := rv_I I
  unfold wpX_size wpY_size
  dsimp only
  rcases rv_isl v1 with ⟨l, hl, rfl⟩ | ⟨hX, hY⟩
  · exact rv_xl hl (br_f rv_10 ⟨rv_v hl, rv_yl hl (br_f rv_10 ⟨rv_v hl, rfl, J⟩)⟩)
  · exact hX _ (br_t rfl (hY _ c n (br_t rfl ⟨rfl, J⟩)))
theorem i_vc_at {k : Nat} {u : SX} {v : SY} (I : i_Rel k u v) (hk : k + 4 ≤ 2048) (v1 : Int32) (v2 : Int32) : wpX_at (fun r => wpY_at (fun r' => r' = r ∧ i_Rel (k + 4) u v) v v1 v2) u v1 v2 := by
  have J : i_Rel (k + 4) u v := I
  obtain ⟨c, n, rfl, rfl, hok⟩ := rv_I I
  unfold wpX_at wpY_at
  dsimp only
  rcases rv_isl v1 with ⟨l, hl, rfl⟩ | ⟨hX, hY⟩
  · refine rv_xl hl (br_f rv_10 ?_)
    by_cases h0 : v2 < 0
    · exact br_t h0 (rv_yl hl (br_f rv_10 (br_t h0 ⟨rfl, J⟩)))
    · by_cases h1 : v2 < n (nI l).toNatClampNeg
      · obtain ⟨m, hn, hL⟩ := rv_get hok hl
        have h1' := h1
        obtain ⟨i, hi, rfl⟩ := nI_of h0
        have hm := hL.1
        rw [rv_n hl hn, nI_ltI hi (by omega)] at h1'
        refine br_f h0 ⟨rv_v hl, br_t h1 ⟨rv_xi hl (by omega), rv_yl hl (br_f rv_10 (br_f h0 ⟨rv_v hl, br_t h1 ⟨rv_yi hl (by omega), ?_, J⟩⟩))⟩⟩
        rw [rv_xc hl (by omega), rv_yc hl (by omega)]
      · exact br_f h0 ⟨rv_v hl, br_f h1 (rv_yl hl (br_f rv_10 (br_f h0 ⟨rv_v hl, br_f h1 ⟨rfl, J⟩⟩)))⟩
  · exact hX _ (br_t rfl (hY _ c n (br_t rfl ⟨rfl, J⟩)))
theorem i_vc_seek {k : Nat} {u : SX} {v : SY} (I : i_Rel k u v) (hk : k + 4 ≤ 2048) (v1 : Int32) (v2 : Int32) : wpX_seek (fun r => wpY_seek (fun r' => r' = r ∧ i_Rel (k + 4) u v) v v1 v2) u v1 v2 := by
  have J : i_Rel (k + 4) u v := I
  obtain ⟨c, n, rfl, rfl, hok⟩ := rv_I I
  rcases rv_isl v1 with ⟨l, hl, rfl⟩ | ⟨hX, hY⟩
  · obtain ⟨m, hn, hL⟩ := rv_get hok hl
    obtain ⟨r, h1, h2, h3, h4⟩ := rv_cb (c := c) v2 hl hn hL.1
    have hm := hL.1
    unfold wpX_seek
    dsimp only
    refine rv_xl hl (br_f rv_10 (h4 _ ⟨rv_v hl, pk_le m r (fun z => ?_) (fun z => ?_) (rv_n hl hn)⟩))
    · exact rv_sk hl hn hL.1 h1 h2 h3 (fun y => absurd y (by omega)) (fun _ => ⟨rfl, J⟩)
    · exact rv_sk hl hn hL.1 h1 h2 h3 (fun _ => ⟨rfl, J⟩) (fun y => absurd y (by omega))
  · unfold wpX_seek wpY_seek
    dsimp only
    exact hX _ (br_t rfl (hY _ c n (br_t rfl ⟨rfl, J⟩)))
theorem i_vc_has {k : Nat} {u : SX} {v : SY} (I : i_Rel k u v) (hk : k + 4 ≤ 2048) (v1 : Int32) (v2 : Int32) : wpX_has (fun r => wpY_has (fun r' => r' = r ∧ i_Rel (k + 4) u v) v v1 v2) u v1 v2 := by
  have J : i_Rel (k + 4) u v := I
  obtain ⟨c, n, rfl, rfl, hok⟩ := rv_I I
  rcases rv_isl v1 with ⟨l, hl, rfl⟩ | ⟨hX, hY⟩
  · obtain ⟨m, hn, hL⟩ := rv_get hok hl
    obtain ⟨b, hb, h1, h2⟩ := rv_mem v2 hl hn hL
    unfold wpX_has
    dsimp only
    refine rv_xl hl (br_f rv_10 (h1 _ ?_))
    rcases hb with rfl | rfl
    · exact br_t rfl (h2 _ ⟨rfl, J⟩)
    · exact br_f rv_10 (h2 _ ⟨rfl, J⟩)
  · unfold wpX_has wpY_has
    dsimp only
    exact hX _ (br_t rfl (hY _ c n (br_t rfl ⟨rfl, J⟩)))
theorem rv_smL {c n : Nat → Int32} {l m : Nat} (v2 v3 : Int32) (hl : l < 2) (hn : n l = nI m) (hm : m ≤ 64) : ∀ d j (x : Int32), j + d = m → ∃ r : Int32, (∀ post : Int32 → Prop, post r → wX_sum_15 post (nI l) v2 v3 c n (d + 1) x (nI j)) ∧ (∀ post : Int32 → Prop, post r → wY_sum_16 post (nI l) v2 v3 c n (d + 1) x (nI j)) := by
  intro d
  induction d with
  | zero =>
    intro j x e
    exact ⟨x, fun post hp => ⟨rv_v hl, pk_le m j (fun _ => hp) (fun z => absurd z (by omega)) (rv_n hl hn)⟩, fun post hp => ⟨rv_v hl, pk_le m j (fun _ => hp) (fun z => absurd z (by omega)) (rv_n hl hn)⟩⟩
  | succ d ih =>
    intro j x e
    have h6 : j < 64 := by omega
    by_cases a : nI j < v2
    · obtain ⟨r, h1, h2⟩ := ih (j + 1) x (by omega)
      exact ⟨r, fun post hp => ⟨rv_v hl, pk_le m j (fun z => absurd z (by omega)) (fun _ => br_t a (nm_r (nI_1 j) (h1 post hp))) (rv_n hl hn)⟩, fun post hp => ⟨rv_v hl, pk_le m j (fun z => absurd z (by omega)) (fun _ => br_t a (nm_r (nI_1 j) (h2 post hp))) (rv_n hl hn)⟩⟩
    · by_cases b : v3 < nI j
      · obtain ⟨r, h1, h2⟩ := ih (j + 1) x (by omega)
        exact ⟨r, fun post hp => ⟨rv_v hl, pk_le m j (fun z => absurd z (by omega)) (fun _ => br_f a (br_t b (nm_r (nI_1 j) (h1 post hp)))) (rv_n hl hn)⟩, fun post hp => ⟨rv_v hl, pk_le m j (fun z => absurd z (by omega)) (fun _ => br_f a (br_t b (nm_r (nI_1 j) (h2 post hp)))) (rv_n hl hn)⟩⟩
      · obtain ⟨r, h1, h2⟩ := ih (j + 1) (x + c (64 * l + j)) (by omega)
        exact ⟨r, fun post hp => ⟨rv_v hl, pk_le m j (fun z => absurd z (by omega)) (fun _ => br_f a (br_f b ⟨rv_xi hl h6, nm_r (by rw [rv_xc hl h6]) (nm_r (nI_1 j) (h1 post hp))⟩)) (rv_n hl hn)⟩, fun post hp => ⟨rv_v hl, pk_le m j (fun z => absurd z (by omega)) (fun _ => br_f a (br_f b ⟨rv_yi hl h6, nm_r (by rw [rv_yc hl h6]) (nm_r (nI_1 j) (h2 post hp))⟩)) (rv_n hl hn)⟩⟩
theorem i_vc_sum {k : Nat} {u : SX} {v : SY} (I : i_Rel k u v) (hk : k + 4 ≤ 2048) (v1 : Int32) (v2 : Int32) (v3 : Int32) : wpX_sum (fun r => wpY_sum (fun r' => r' = r ∧ i_Rel (k + 4) u v) v v1 v2 v3) u v1 v2 v3 := by
  have J : i_Rel (k + 4) u v := I
  obtain ⟨c, n, rfl, rfl, hok⟩ := rv_I I
  unfold wpX_sum wpY_sum
  dsimp only
  rcases rv_isl v1 with ⟨l, hl, rfl⟩ | ⟨hX, hY⟩
  · obtain ⟨m, hn, hL⟩ := rv_get hok hl
    obtain ⟨r, h1, h2⟩ := rv_smL (c := c) v2 v3 hl hn hL.1 m 0 0 (Nat.zero_add m)
    exact rv_xl hl (br_f rv_10 ⟨m + 1, h1 _ (rv_yl hl (br_f rv_10 ⟨m + 1, h2 _ ⟨rfl, J⟩⟩))⟩)
  · exact hX _ (br_t rfl (hY _ c n (br_t rfl ⟨rfl, J⟩)))
theorem rv_87 (x : Int32) : x + 8 - 1 = x + 7 := by grind
theorem rv_80 : ¬ (8 : Int32) = 0 := by decide
theorem i_vc_blocks {k : Nat} {u : SX} {v : SY} (I : i_Rel k u v) (hk : k + 4 ≤ 2048) (v1 : Int32) : wpX_blocks (fun r => wpY_blocks (fun r' => r' = r ∧ i_Rel (k + 4) u v) v v1) u v1 := by
  have J : i_Rel (k + 4) u v := I
  obtain ⟨c, n, rfl, rfl, hok⟩ := rv_I I
  unfold wpX_blocks wpY_blocks wpX_blockCount
  dsimp only
  rcases rv_isl v1 with ⟨l, hl, rfl⟩ | ⟨hX, hY⟩
  · refine rv_xl hl (br_f rv_10 ⟨rv_v hl, rv_80, rv_yl hl (br_f rv_10 ⟨rv_v hl, rv_80, ?_, J⟩)⟩)
    rw [rv_87]
  · exact hX _ (br_t rfl (hY _ c n (br_t rfl ⟨rfl, J⟩)))
/-! the two lists together -/
theorem rv_c0 {n : Nat → Int32} {c : Nat → Int32} {m : Nat} (hn : n 0 = nI m) (hL : rv_L c 0 m) (j : Nat) (hj : j < m) : vp_in (nI j) 128 ∧ (nI j).toNatClampNeg = j := ⟨vp_in_nI (by have := hL.1; omega) (by decide), nI_clamp (by have := hL.1; omega)⟩
theorem rv_coL {c n : Nat → Int32} {m m1 : Nat} (hn : n 0 = nI m) (hL : rv_L c 0 m) (hn1 : n 1 = nI m1) (hL1 : rv_L c 1 m1) : ∀ d j (x : Int32), j + d = m → ∃ r : Int32, (∀ post : Int32 → Prop, post r → wX_common_4 post c n (d + 1) x (nI j)) ∧ (∀ post : Int32 → Prop, post r → wY_common_4 post c n (d + 1) x (nI j)) := by
  have hm := hL.1
  intro d
  induction d with
  | zero =>
    intro j x e
    exact ⟨x, fun post hp => pk_le m j (fun _ => hp) (fun z => absurd z (by omega)) hn, fun post hp => pk_le m j (fun _ => hp) (fun z => absurd z (by omega)) hn⟩
  | succ d ih =>
    intro j x e
    have hj := (rv_c0 hn hL j (by omega)).1
    obtain ⟨b, hb, h1, h2⟩ := rv_mem (c (nI j).toNatClampNeg) (l := 1) (by omega) hn1 hL1
    rcases hb with rfl | rfl
    · obtain ⟨r, g1, g2⟩ := ih (j + 1) x (by omega)
      exact ⟨r, fun post hp => pk_le m j (fun z => absurd z (by omega)) (fun _ => ⟨hj, h1 _ (br_t rfl (nm_r (nI_1 j) (g1 post hp)))⟩) hn, fun post hp => pk_le m j (fun z => absurd z (by omega)) (fun _ => ⟨hj, h2 _ (br_t rfl (nm_r (nI_1 j) (g2 post hp)))⟩) hn⟩
    · obtain ⟨r, g1, g2⟩ := ih (j + 1) (x + 1) (by omega)
      exact ⟨r, fun post hp => pk_le m j (fun z => absurd z (by omega)) (fun _ => ⟨hj, h1 _ (br_f rv_10 (nm_e (nm_r (nI_1 j) (g1 post hp))))⟩) hn, fun post hp => pk_le m j (fun z => absurd z (by omega)) (fun _ => ⟨hj, h2 _ (br_f rv_10 (nm_e (nm_r (nI_1 j) (g2 post hp))))⟩) hn⟩
theorem i_vc_common {k : Nat} {u : SX} {v : SY} (I : i_Rel k u v) (hk : k + 4 ≤ 2048) : wpX_common (fun r => wpY_common (fun r' => r' = r ∧ i_Rel (k + 4) u v) v) u := by
  have J : i_Rel (k + 4) u v := I
  obtain ⟨c, n, rfl, rfl, hok⟩ := rv_I I
  obtain ⟨m, hn, hL⟩ := rv_get hok (l := 0) (by omega)
  obtain ⟨m1, hn1, hL1⟩ := rv_get hok (l := 1) (by omega)
  obtain ⟨r, h1, h2⟩ := rv_coL hn hL hn1 hL1 m 0 0 (Nat.zero_add m)
  exact ⟨m + 1, h1 _ ⟨m + 1, h2 _ ⟨rfl, J⟩⟩⟩
theorem rv_caL {c n : Nat → Int32} {m m1 : Nat} (k : Int32) (hn : n 0 = nI m) (hL : rv_L c 0 m) (hn1 : n 1 = nI m1) (hL1 : rv_L c 1 m1) : ∀ d j (x : Int32), j + d = m → ∃ r : Int32, (∀ post : Int32 → Prop, post r → wX_commonAt_4 post k c n (d + 1) x (nI j)) ∧ (∀ post : Int32 → Prop, post r → wY_commonAt_4 post k c n (d + 1) x (nI j)) := by
  have hm := hL.1
  intro d
  induction d with
  | zero =>
    intro j x e
    exact ⟨-4, fun post hp => pk_le m j (fun _ => hp) (fun z => absurd z (by omega)) hn, fun post hp => pk_le m j (fun _ => hp) (fun z => absurd z (by omega)) hn⟩
  | succ d ih =>
    intro j x e
    have hj := (rv_c0 hn hL j (by omega)).1
    obtain ⟨b, hb, h1, h2⟩ := rv_mem (c (nI j).toNatClampNeg) (l := 1) (by omega) hn1 hL1
    rcases hb with rfl | rfl
    · obtain ⟨r, g1, g2⟩ := ih (j + 1) x (by omega)
      exact ⟨r, fun post hp => pk_le m j (fun z => absurd z (by omega)) (fun _ => ⟨hj, h1 _ (br_t rfl (nm_r (nI_1 j) (g1 post hp)))⟩) hn, fun post hp => pk_le m j (fun z => absurd z (by omega)) (fun _ => ⟨hj, h2 _ (br_t rfl (nm_r (nI_1 j) (g2 post hp)))⟩) hn⟩
    · by_cases hx : x = k
      · exact ⟨_, fun post hp => pk_le m j (fun z => absurd z (by omega)) (fun _ => ⟨hj, h1 _ (br_f rv_10 (br_t hx ⟨hj, hp⟩))⟩) hn, fun post hp => pk_le m j (fun z => absurd z (by omega)) (fun _ => ⟨hj, h2 _ (br_f rv_10 (br_t hx ⟨hj, hp⟩))⟩) hn⟩
      · obtain ⟨r, g1, g2⟩ := ih (j + 1) (x + 1) (by omega)
        exact ⟨r, fun post hp => pk_le m j (fun z => absurd z (by omega)) (fun _ => ⟨hj, h1 _ (br_f rv_10 (br_f hx (nm_e (nm_r (nI_1 j) (g1 post hp)))))⟩) hn, fun post hp => pk_le m j (fun z => absurd z (by omega)) (fun _ => ⟨hj, h2 _ (br_f rv_10 (br_f hx (nm_e (nm_r (nI_1 j) (g2 post hp)))))⟩) hn⟩
theorem i_vc_commonAt {k : Nat} {u : SX} {v : SY} (I : i_Rel k u v) (hk : k + 4 ≤ 2048) (v1 : Int32) : wpX_commonAt (fun r => wpY_commonAt (fun r' => r' = r ∧ i_Rel (k + 4) u v) v v1) u v1 := by
  have J : i_Rel (k + 4) u v := I
  obtain ⟨c, n, rfl, rfl, hok⟩ := rv_I I
  obtain ⟨m, hn, hL⟩ := rv_get hok (l := 0) (by omega)
  obtain ⟨m1, hn1, hL1⟩ := rv_get hok (l := 1) (by omega)
  obtain ⟨r, h1, h2⟩ := rv_caL v1 hn hL hn1 hL1 m 0 0 (Nat.zero_add m)
  exact ⟨m + 1, h1 _ ⟨m + 1, h2 _ ⟨rfl, J⟩⟩⟩
theorem rv_taL {c n : Nat → Int32} {l l1 m m1 : Nat} (hl : l < 2) (hl1 : l1 < 2) (e1 : 1 - nI l = nI l1) (hn1 : n l1 = nI m1) (hL : rv_L c l m) (hL1 : rv_L c l1 m1) : ∀ j (x : Int32), j ≤ m → ∃ r : Int32, (∀ post : Int32 → Prop, post r → wX_tail_21 post (nI l) c n (j + 1) x (nI j - 1)) ∧ (∀ post : Int32 → Prop, post r → wY_tail_22 post (nI l) c n (j + 1) x (nI j - 1)) := by
  have hm := hL.1
  intro j
  induction j with
  | zero =>
    intro x h
    exact ⟨x, fun post hp => br_t (by decide) hp, fun post hp => br_t (by decide) hp⟩
  | succ j ih =>
    intro x h
    rw [nI_pred]
    have h6 : j < 64 := by omega
    have e2 : nI j + (-1) = nI j - 1 := by grind
    obtain ⟨b, hb, h1, h2⟩ := rv_mem (c (64 * l + j)) hl1 hn1 hL1
    rw [← e1] at h1 h2
    rcases hb with rfl | rfl
    · refine ⟨x, fun post hp => br_f (nI_pos (by omega)) ⟨rv_xi hl h6, nm_r (by rw [rv_xc hl h6]) (h1 _ (br_t rfl hp))⟩, fun post hp => br_f (nI_pos (by omega)) ⟨rv_yi hl h6, ?_⟩⟩
      rw [rv_yc hl h6]
      exact h2 _ (br_t rfl hp)
    · obtain ⟨r, g1, g2⟩ := ih (c (64 * l + j)) (by omega)
      refine ⟨r, fun post hp => br_f (nI_pos (by omega)) ⟨rv_xi hl h6, nm_r (by rw [rv_xc hl h6]) (h1 _ (br_f rv_10 (nm_r e2 (g1 post hp))))⟩, fun post hp => br_f (nI_pos (by omega)) ⟨rv_yi hl h6, ?_⟩⟩
      rw [rv_yc hl h6]
      exact h2 _ (br_f rv_10 ⟨rv_yi hl h6, nm_e (nm_r e2 (g2 post hp))⟩)
theorem i_vc_tail {k : Nat} {u : SX} {v : SY} (I : i_Rel k u v) (hk : k + 4 ≤ 2048) (v1 : Int32) : wpX_tail (fun r => wpY_tail (fun r' => r' = r ∧ i_Rel (k + 4) u v) v v1) u v1 := by
  have J : i_Rel (k + 4) u v := I
  obtain ⟨c, n, rfl, rfl, hok⟩ := rv_I I
  unfold wpX_tail wpY_tail
  dsimp only
  rcases rv_isl v1 with ⟨l, hl, rfl⟩ | ⟨hX, hY⟩
  · obtain ⟨m, hn, hL⟩ := rv_get hok hl
    obtain ⟨m1, hn1, hL1⟩ := rv_get hok (l := 1 - l) (by omega)
    have e1 : 1 - nI l = nI (1 - l) := pk_sub (a := 1) (by omega)
    obtain ⟨r, h1, h2⟩ := rv_taL hl (by omega) e1 hn1 hL hL1 m (-4) (Nat.le_refl m)
    rw [rv_n hl hn]
    exact rv_xl hl (br_f rv_10 ⟨rv_v hl, nm_e ⟨m + 1, h1 _ (rv_yl hl (br_f rv_10 ⟨rv_v hl, nm_e ⟨m + 1, h2 _ ⟨rfl, J⟩⟩⟩))⟩⟩)
  · exact hX _ (br_t rfl (hY _ c n (br_t rfl ⟨rfl, J⟩)))
