/-! the best base and the least size; base, blockSize, packed -/
def rv_B (S : Nat → Int32) : Nat → Nat
  | 0 => 0
  | w + 1 => if S (rv_B S w) ≤ S (w + 1) then rv_B S w else w + 1
theorem rv_Bt {S : Nat → Int32} {w : Nat} (h : S (rv_B S w) ≤ S (w + 1)) : rv_B S (w + 1) = rv_B S w := if_pos h
theorem rv_Bf {S : Nat → Int32} {w : Nat} (h : ¬ S (rv_B S w) ≤ S (w + 1)) : rv_B S (w + 1) = w + 1 := if_neg h
theorem rv_Bm (S : Nat → Int32) : ∀ w, rv_B S w ≤ w ∧ (∀ j, j ≤ w → S (rv_B S w) ≤ S j) ∧ (∀ j, j < rv_B S w → ¬ S j = S (rv_B S w)) := by
  intro w
  induction w with
  | zero =>
    refine ⟨Nat.le_refl 0, fun j hj => ?_, fun j hj => absurd hj (Nat.not_lt_zero j)⟩
    obtain rfl : j = 0 := by omega
    exact Int32.le_refl _
  | succ w ih =>
    obtain ⟨h1, h2, h3⟩ := ih
    by_cases h : S (rv_B S w) ≤ S (w + 1)
    · rw [rv_Bt h]
      refine ⟨by omega, fun j hj => ?_, h3⟩
      by_cases e : j = w + 1
      · subst e; exact h
      · exact h2 j (by omega)
    · rw [rv_Bf h]
      have h' : S (w + 1) < S (rv_B S w) := Int32.not_le.mp h
      refine ⟨Nat.le_refl _, fun j hj => ?_, fun j hj e => ?_⟩
      · by_cases e : j = w + 1
        · subst e; exact Int32.le_refl _
        · exact Int32.le_trans (Int32.le_of_lt h') (h2 j (by omega))
      · have := h2 j (by omega)
        rw [e] at this
        exact h this
theorem rv_lsL {c n : Nat → Int32} {l b : Nat} {S : Nat → Int32} {post : Int32 → Prop} (hX : ∀ (w : Nat) (post : Int32 → Prop), post (S w) → wpX_sizeAtBase post (c, n) (nI l) (nI b) (nI w)) (hp : post (S (rv_B S 20))) : ∀ d w, w + d = 20 → wX_leastSize_11 post (nI l) (nI b) c n (d + 1) (S (rv_B S w)) (nI (w + 1)) := by
  intro d
  induction d with
  | zero =>
    intro w e
    obtain rfl : w = 20 := e
    exact br_t (by decide) hp
  | succ d ih =>
    intro w e
    refine br_f (nI_nlt (b := w + 1) (a := 20) (by omega) (by decide)) (hX (w + 1) _ ?_)
    have := ih (w + 1) (by omega)
    by_cases h : S (rv_B S w) ≤ S (w + 1)
    · rw [rv_Bt h] at this
      exact br_t h (nm_r (nI_1 (w + 1)) this)
    · rw [rv_Bf h] at this
      exact br_f h (nm_r (nI_1 (w + 1)) this)
theorem rv_bbL {c n : Nat → Int32} {l b : Nat} {S : Nat → Int32} {post : Int32 → Prop} (hY : ∀ (w : Nat) (post : Int32 → Prop), post (S w) → wpY_sizeAt post (c, n) (nI l) (nI b) (nI w)) (hp : post (nI (rv_B S 20))) : ∀ d w, w + d = 20 → wY_bestBase_5 post (nI l) (nI b) c n (d + 1) (nI (rv_B S w)) (nI (w + 1)) := by
  intro d
  induction d with
  | zero =>
    intro w e
    obtain rfl : w = 20 := e
    exact br_t (by decide) hp
  | succ d ih =>
    intro w e
    refine br_f (nI_nlt (b := w + 1) (a := 20) (by omega) (by decide)) (hY (w + 1) _ (hY (rv_B S w) _ ?_))
    have := ih (w + 1) (by omega)
    by_cases h : S (rv_B S w) ≤ S (w + 1)
    · rw [rv_Bt h] at this
      exact br_t h (nm_r (nI_1 (w + 1)) this)
    · rw [rv_Bf h] at this
      exact br_f h (nm_r (nI_1 (w + 1)) this)
theorem rv_lbL {c n : Nat → Int32} {l b : Nat} {S : Nat → Int32} {post : Int32 → Prop} (hX : ∀ (w : Nat) (post : Int32 → Prop), post (S w) → wpX_sizeAtBase post (c, n) (nI l) (nI b) (nI w)) (hp : post (nI (rv_B S 20))) : ∀ d w, w + d = rv_B S 20 → wX_leastBaseOfSize_3 post (nI l) (nI b) (S (rv_B S 20)) c n (d + 1) (nI w) := by
  obtain ⟨h1, h2, h3⟩ := rv_Bm S 20
  intro d
  induction d with
  | zero =>
    intro w e
    have e : w = rv_B S 20 := e
    rw [← e] at hp ⊢
    exact br_c (fun _ => hp) (fun _ => hX w _ (br_t rfl hp))
  | succ d ih =>
    intro w e
    exact br_f (nI_ge (b := 20) (by omega) (by decide)) (hX w _ (br_f (h3 w (by omega)) (nm_r (nI_1 w) (ih (w + 1) (by omega)))))
theorem rv_block {c n : Nat → Int32} {l m b : Nat} (hl : l < 2) (hn : n l = nI m) (hL : rv_L c l m) (hb : 8 * b < m) : ∃ s w : Int32, (∀ post : Int32 → Prop, post s → wpX_leastSize post (c, n) (nI l) (nI b)) ∧ (∀ post : Int32 → Prop, post w → wpX_leastBaseOfSize post (c, n) (nI l) (nI b) s) ∧ (∀ post : Int32 → Prop, post w → wpY_bestBase post (c, n) (nI l) (nI b)) ∧ (∀ post : Int32 → Prop, post s → wpY_sizeAt post (c, n) (nI l) (nI b) w) := by
  obtain ⟨S, hS⟩ := Classical.axiomOfChoice (fun w : Nat => rv_size hl hn hL hb (nI w))
  have hX := fun w => (hS w).1
  have hY := fun w => (hS w).2
  refine ⟨S (rv_B S 20), nI (rv_B S 20), fun post hp => ?_, fun post hp => ?_, fun post hp => ?_, fun post hp => hY _ post hp⟩
  · unfold wpX_leastSize
    dsimp only
    exact hX 0 _ ⟨21, rv_lsL hX hp 20 0 rfl⟩
  · exact ⟨rv_B S 20 + 1, rv_lbL hX hp (rv_B S 20) 0 (Nat.zero_add _)⟩
  · exact ⟨21, rv_bbL hY hp 20 0 rfl⟩
theorem rv_cnt {m : Nat} (hm : m ≤ 64) : (nI m + 7) / 8 = nI ((m + 7) / 8) := by
  rw [show (7 : Int32) = nI 7 from by decide, nI_add, rv_8, pk_div (by omega) (by decide) (by decide)]
theorem rv_isb {c n : Nat → Int32} {l m : Nat} (v2 : Int32) (hl : l < 2) (hn : n l = nI m) (hm : m ≤ 64) : (∃ b, v2 = nI b ∧ 8 * b < m ∧ (∀ post : Int32 → Prop, post 1 → wpX_isBlock post (c, n) (nI l) v2) ∧ (∀ post : Int32 → Prop, post 1 → wpY_isBlock post (c, n) (nI l) v2)) ∨ ((∀ post : Int32 → Prop, post 0 → wpX_isBlock post (c, n) (nI l) v2) ∧ (∀ post : Int32 → Prop, post 0 → wpY_isBlock post (c, n) (nI l) v2)) := by
  have eX : (n (nI l).toNatClampNeg + 8 - 1) / 8 = nI ((m + 7) / 8) := by rw [rv_n hl hn, rv_87, rv_cnt hm]
  have eY : (n (nI l).toNatClampNeg + 7) / 8 = nI ((m + 7) / 8) := by rw [rv_n hl hn, rv_cnt hm]
  by_cases h0 : v2 < 0
  · exact Or.inr ⟨fun post hp => br_t h0 hp, fun post hp => br_t h0 hp⟩
  · by_cases h1 : nI ((m + 7) / 8) ≤ v2
    · exact Or.inr ⟨fun post hp => br_f h0 ⟨rv_v hl, rv_80, br_t (by rw [eX]; exact h1) hp⟩, fun post hp => br_f h0 ⟨rv_v hl, rv_80, br_t (by rw [eY]; exact h1) hp⟩⟩
    · refine Or.inl ?_
      obtain ⟨b, hb, rfl⟩ := nI_of h0
      refine ⟨b, rfl, ?_, fun post hp => br_f h0 ⟨rv_v hl, rv_80, br_f (by rw [eX]; exact h1) hp⟩, fun post hp => br_f h0 ⟨rv_v hl, rv_80, br_f (by rw [eY]; exact h1) hp⟩⟩
      rw [nI_leI (by omega) hb] at h1
      omega
theorem i_vc_base {k : Nat} {u : SX} {v : SY} (I : i_Rel k u v) (hk : k + 4 ≤ 2048) (v1 : Int32) (v2 : Int32) : wpX_base (fun r => wpY_base (fun r' => r' = r ∧ i_Rel (k + 4) u v) v v1 v2) u v1 v2 := by
  have J : i_Rel (k + 4) u v := I
  obtain ⟨c, n, rfl, rfl, hok⟩ := rv_I I
  unfold wpX_base wpY_base
  dsimp only
  rcases rv_isl v1 with ⟨l, hl, rfl⟩ | ⟨hX, hY⟩
  · obtain ⟨m, hn, hL⟩ := rv_get hok hl
    rcases rv_isb (c := c) v2 hl hn hL.1 with ⟨b, rfl, hb, hX, hY⟩ | ⟨hX, hY⟩
    · obtain ⟨s, w, h1, h2, h3, h4⟩ := rv_block hl hn hL hb
      refine rv_xl hl (br_f rv_10 (hX _ (br_f rv_10 (h1 _ (h2 _ ?_)))))
      exact rv_yl hl (br_f rv_10 (hY _ (br_f rv_10 (h3 _ ⟨rfl, J⟩))))
    · exact rv_xl hl (br_f rv_10 (hX _ (br_t rfl (rv_yl hl (br_f rv_10 (hY _ (br_t rfl ⟨rfl, J⟩)))))))
  · exact hX _ (br_t rfl (hY _ c n (br_t rfl ⟨rfl, J⟩)))
theorem i_vc_blockSize {k : Nat} {u : SX} {v : SY} (I : i_Rel k u v) (hk : k + 4 ≤ 2048) (v1 : Int32) (v2 : Int32) : wpX_blockSize (fun r => wpY_blockSize (fun r' => r' = r ∧ i_Rel (k + 4) u v) v v1 v2) u v1 v2 := by
  have J : i_Rel (k + 4) u v := I
  obtain ⟨c, n, rfl, rfl, hok⟩ := rv_I I
  unfold wpX_blockSize wpY_blockSize
  dsimp only
  rcases rv_isl v1 with ⟨l, hl, rfl⟩ | ⟨hX, hY⟩
  · obtain ⟨m, hn, hL⟩ := rv_get hok hl
    rcases rv_isb (c := c) v2 hl hn hL.1 with ⟨b, rfl, hb, hX, hY⟩ | ⟨hX, hY⟩
    · obtain ⟨s, w, h1, h2, h3, h4⟩ := rv_block hl hn hL hb
      refine rv_xl hl (br_f rv_10 (hX _ (br_f rv_10 (h1 _ ?_))))
      exact rv_yl hl (br_f rv_10 (hY _ (br_f rv_10 (h3 _ (h4 _ ⟨rfl, J⟩)))))
    · exact rv_xl hl (br_f rv_10 (hX _ (br_t rfl (rv_yl hl (br_f rv_10 (hY _ (br_t rfl ⟨rfl, J⟩)))))))
  · exact hX _ (br_t rfl (hY _ c n (br_t rfl ⟨rfl, J⟩)))
