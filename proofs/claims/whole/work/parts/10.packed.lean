/-! packed: both lists, block by block -/
theorem rv_bs {c n : Nat → Int32} {l m b : Nat} (hl : l < 2) (hn : n l = nI m) (hL : rv_L c l m) (hb : 8 * b < m) : ∃ s : Int32, (∀ post : Int32 → Prop, post s → wpX_leastSize post (c, n) (nI l) (nI b)) ∧ (∀ post : Int32 → Prop, post s → wpY_blockSize post (c, n) (nI l) (nI b)) := by
  have hm := hL.1
  have eY : (n (nI l).toNatClampNeg + 7) / 8 = nI ((m + 7) / 8) := by rw [rv_n hl hn, rv_cnt hm]
  obtain ⟨s, w, h1, h2, h3, h4⟩ := rv_block hl hn hL hb
  refine ⟨s, h1, fun post hp => ?_⟩
  unfold wpY_blockSize
  dsimp only
  refine rv_yl hl (br_f rv_10 ?_)
  exact br_f (nI_pos (by omega)) ⟨rv_v hl, rv_80, br_f (by rw [eY]; exact nI_ge (by omega) (by omega)) (br_f rv_10 (h3 _ (h4 _ hp)))⟩
theorem rv_pkL {c n : Nat → Int32} {l m : Nat} (hl : l < 2) (hn : n l = nI m) (hL : rv_L c l m) : ∀ d j (x : Int32), j + d = (m + 7) / 8 → ∃ r : Int32, (∀ (post : Int32 → Prop) (J : Int32 → Int32 → Prop), J r (nI (l + 1)) → wX_packed_18 post J (nI l) (nI ((m + 7) / 8)) c n (d + 1) x (nI j)) ∧ (∀ (post : Int32 → Prop) (J : Int32 → Int32 → Prop), J r (nI (l + 1)) → wY_packed_11 post J (nI l) c n (d + 1) x (nI j)) := by
  have hm := hL.1
  have eY : (n (nI l).toNatClampNeg + 7) / 8 = nI ((m + 7) / 8) := by rw [rv_n hl hn, rv_cnt hm]
  intro d
  induction d with
  | zero =>
    intro j x e
    exact ⟨x, fun post J hJ => br_t (nI_le (by omega) (by omega)) (nm_r (nI_1 l) hJ), fun post J hJ => ⟨rv_v hl, rv_80, br_t (by rw [eY]; exact nI_le (by omega) (by omega)) (nm_r (nI_1 l) hJ)⟩⟩
  | succ d ih =>
    intro j x e
    obtain ⟨s, h1, h2⟩ := rv_bs hl hn hL (b := j) (by omega)
    obtain ⟨r, g1, g2⟩ := ih (j + 1) (x + s) (by omega)
    exact ⟨r, fun post J hJ => br_f (nI_ge (by omega) (by omega)) (h1 _ (nm_e (nm_r (nI_1 j) (g1 post J hJ)))), fun post J hJ => ⟨rv_v hl, rv_80, br_f (by rw [eY]; exact nI_ge (by omega) (by omega)) (h2 _ (nm_e (nm_r (nI_1 j) (g2 post J hJ))))⟩⟩
theorem rv_poL {c n : Nat → Int32} (hok : rv_ok c n) : ∀ d l (x : Int32), l + d = 2 → ∃ r : Int32, (∀ post : Int32 → Prop, post r → wX_packed_4 post c n (d + 1) x (nI l)) ∧ (∀ post : Int32 → Prop, post r → wY_packed_4 post c n (d + 1) x (nI l)) := by
  intro d
  induction d with
  | zero =>
    intro l x e
    obtain rfl : l = 2 := e
    exact ⟨x, fun post hp => br_t (by decide) hp, fun post hp => br_t (by decide) hp⟩
  | succ d ih =>
    intro l x e
    have hl : l < 2 := by omega
    obtain ⟨m, hn, hL⟩ := rv_get hok hl
    obtain ⟨t, h1, h2⟩ := rv_pkL hl hn hL ((m + 7) / 8) 0 x (Nat.zero_add _)
    obtain ⟨r, g1, g2⟩ := ih (l + 1) t (by omega)
    have eX : (n (nI l).toNatClampNeg + 8 - 1) / 8 = nI ((m + 7) / 8) := by rw [rv_n hl hn, rv_87, rv_cnt hL.1]
    refine ⟨r, fun post hp => br_f (nI_ge (b := 2) hl (by decide)) ⟨rv_v hl, rv_80, ?_⟩, fun post hp => br_f (nI_ge (b := 2) hl (by decide)) ⟨_, h2 post _ (g2 post hp)⟩⟩
    rw [eX]
    exact ⟨_, h1 post _ (g1 post hp)⟩
theorem i_vc_packed {k : Nat} {u : SX} {v : SY} (I : i_Rel k u v) (hk : k + 4 ≤ 2048) : wpX_packed (fun r => wpY_packed (fun r' => r' = r ∧ i_Rel (k + 4) u v) v) u := by
  have J : i_Rel (k + 4) u v := I
  obtain ⟨c, n, rfl, rfl, hok⟩ := rv_I I
  obtain ⟨r, h1, h2⟩ := rv_poL hok 2 0 0 rfl
  exact ⟨3, h1 _ ⟨3, h2 _ ⟨rfl, J⟩⟩⟩
