section
variable {f : Int32} {m w c : Nat → Int32}
theorem ps_map {F s a b : Nat} (hF : F ≤ 48) (hs : s < 2) (h1 : 1 ≤ b) (hab : a + b ≤ 32) (hm : ps_B m) (hw : ps_B w) :
    ∃ (r : Int32) (m' w' c' : Nat → Int32), ps_B m' ∧ ps_B w' ∧
      (∀ P : Int32 → SX → Prop, P r (nI F, m', w', c') → wpX_map P (nI F, m, w, c) (nI s) (nI a) (nI b)) ∧
      (∀ P : Int32 → SY → Prop, P r (nI F, m', w', c') → wpY_map P (nI F, m, w, c) (nI s) (nI a) (nI b)) := by
  have hc := ps_cnt_le m b (s * 32 + a)
  have hU := ps_cnt_le m 64 0
  have ht : (b - ps_cnt m (s * 32 + a) b) + ps_cnt m (s * 32 + a) b = 0 + b := by omega
  have hx : nI b - nI (ps_cnt m (s * 32 + a) b) = nI (b - ps_cnt m (s * 32 + a) b) := pk_sub hc
  have ht64 : b - ps_cnt m (s * 32 + a) b ≤ 64 := by omega
  generalize b - ps_cnt m (s * 32 + a) b = t at ht hx ht64
  by_cases hf : ps_cnt m 0 64 + t ≤ F
  · obtain ⟨m', w', c', hm', hw', iX, iY⟩ := ps_mapL (f := nI F) (e := s * 32 + a + b) hs (nI t) hab (by omega) b a m w c rfl hm hw
    refine ⟨nI t, m', w', c', hm', hw', ?_, ?_⟩
    · intro P h
      unfold wpX_map
      exact xa_rr_0 hs h1 hab (br_t rfl (xa_sl s a (nm_r (nI_add _ _) (xa_cm (s * 32 + a) b rfl rfl (by omega) (nm_r hx (xa_free (br_t ((ps_le_free ht64 (by omega) hU).mpr hf) ⟨_, iX P h⟩)))))))
    · intro P h
      unfold wpY_map
      exact ya_sp0 hs (br_t rfl (ya_br0 h1 hab (br_t rfl ⟨b + 1, ya_m28 hs hab b a 0 t rfl ht (br_t (ps_yle hf (by omega)) ⟨_, iY P h⟩)⟩)))
  · refine ⟨-3, m, w, c, hm, hw, ?_, ?_⟩
    · intro P h
      unfold wpX_map
      exact xa_rr_0 hs h1 hab (br_t rfl (xa_sl s a (nm_r (nI_add _ _) (xa_cm (s * 32 + a) b rfl rfl (by omega) (nm_r hx (xa_free (br_f (fun z => hf ((ps_le_free ht64 (by omega) hU).mp z)) h)))))))
    · intro P h
      unfold wpY_map
      exact ya_sp0 hs (br_t rfl (ya_br0 h1 hab (br_t rfl ⟨b + 1, ya_m28 hs hab b a 0 t rfl ht (br_f (ps_ynle (by omega) (by omega)) h)⟩)))
theorem ps_unmap {s a b : Nat} (hs : s < 2) (h1 : 1 ≤ b) (hab : a + b ≤ 32) (hm : ps_B m) :
    ∃ (r : Int32) (m' : Nat → Int32), ps_B m' ∧
      (∀ P : Int32 → SX → Prop, P r (f, m', w, c) → wpX_unmap P (f, m, w, c) (nI s) (nI a) (nI b)) ∧
      (∀ P : Int32 → SY → Prop, P r (f, m', w, c) → wpY_unmap P (f, m, w, c) (nI s) (nI a) (nI b)) := by
  obtain ⟨m', hm', iX, iY⟩ := ps_unL (f := f) (w := w) (c := c) (e := s * 32 + a + b) hs (nI (ps_cnt m (s * 32 + a) b)) hab (by omega) b a 0 _ m rfl (Nat.zero_add _).symm hm
  refine ⟨nI (ps_cnt m (s * 32 + a) b), m', hm', ?_, ?_⟩
  · intro P h
    unfold wpX_unmap
    exact xa_rr_0 hs h1 hab (br_t rfl (xa_sl s a (nm_r (nI_add _ _) (xa_cm (s * 32 + a) b rfl rfl (by omega) ⟨_, iX P h⟩))))
  · intro P h
    unfold wpY_unmap
    exact ya_sp0 hs (br_t rfl (ya_br0 h1 hab (br_t rfl ⟨_, iY P h⟩)))
theorem ps_protect {s a b : Nat} (hs : s < 2) (h1 : 1 ≤ b) (hab : a + b ≤ 32) (hw : ps_B w) (v : Int32) :
    ∃ (r : Int32) (w' : Nat → Int32), ps_B w' ∧
      (∀ P : Int32 → SX → Prop, P r (f, m, w', c) → wpX_protect P (f, m, w, c) (nI s) (nI a) (nI b) v) ∧
      (∀ P : Int32 → SY → Prop, P r (f, m, w', c) → wpY_protect P (f, m, w, c) (nI s) (nI a) (nI b) v) := by
  by_cases z : v = 0
  · obtain ⟨r, w', hw', iX, iY⟩ := ps_prL (f := f) (m := m) (c := c) (g := 0) (e := s * 32 + a + b) hs (Or.inl rfl) hab (by omega) b a 0 w rfl hw
    refine ⟨r, w', hw', ?_, ?_⟩
    · intro P h
      unfold wpX_protect
      refine xa_rr_0 hs h1 hab (br_t rfl (br_t z ?_))
      unfold wX_protect_26
      exact xa_sl s a (nm_r (nI_add _ _) ⟨_, iX P h⟩)
    · intro P h
      unfold wpY_protect
      exact ya_sp0 hs (br_t rfl (ya_br0 h1 hab (br_t rfl (br_t z ⟨_, iY P h⟩))))
  · obtain ⟨r, w', hw', iX, iY⟩ := ps_prL (f := f) (m := m) (c := c) (g := 1) (e := s * 32 + a + b) hs (Or.inr rfl) hab (by omega) b a 0 w rfl hw
    refine ⟨r, w', hw', ?_, ?_⟩
    · intro P h
      unfold wpX_protect
      refine xa_rr_0 hs h1 hab (br_t rfl (br_f z ?_))
      unfold wX_protect_26
      exact xa_sl s a (nm_r (nI_add _ _) ⟨_, iX P h⟩)
    · intro P h
      unfold wpY_protect
      exact ya_sp0 hs (br_t rfl (ya_br0 h1 hab (br_t rfl (br_f z ⟨_, iY P h⟩))))
theorem ps_mapped {s p : Nat} (hs : s < 2) (hp : p < 32) :
    ∃ r : Int32, (∀ Q : Int32 → Prop, Q r → wpX_mapped Q (f, m, w, c) (nI s) (nI p)) ∧
      (∀ Q : Int32 → Prop, Q r → wpY_mapped Q (f, m, w, c) (nI s) (nI p)) := by
  have h64 : s * 32 + p < 64 := by omega
  by_cases z : m (s * 32 + p) = 0
  · refine ⟨0, ?_, ?_⟩
    · intro Q h
      unfold wpX_mapped
      exact xa_rp_0 hs hp (br_t rfl (xa_sl s p ⟨ps_in rfl h64, br_t (ps_z rfl h64 z) h⟩))
    · intro Q h
      unfold wpY_mapped
      exact ya_sp0 hs (br_t rfl (ya_pg0 hp (br_t rfl ⟨ps_in (ps_slot' s p) h64, br_t (ps_z (ps_slot' s p) h64 z) h⟩)))
  · refine ⟨1, ?_, ?_⟩
    · intro Q h
      unfold wpX_mapped
      exact xa_rp_0 hs hp (br_t rfl (xa_sl s p ⟨ps_in rfl h64, br_f (ps_n rfl h64 z) h⟩))
    · intro Q h
      unfold wpY_mapped
      exact ya_sp0 hs (br_t rfl (ya_pg0 hp (br_t rfl ⟨ps_in (ps_slot' s p) h64, br_f (ps_n (ps_slot' s p) h64 z) h⟩)))
theorem ps_writable {s p : Nat} (hs : s < 2) (hp : p < 32) :
    ∃ r : Int32, (∀ Q : Int32 → Prop, Q r → wpX_writable Q (f, m, w, c) (nI s) (nI p)) ∧
      (∀ Q : Int32 → Prop, Q r → wpY_writable Q (f, m, w, c) (nI s) (nI p)) := by
  have h64 : s * 32 + p < 64 := by omega
  by_cases z : m (s * 32 + p) = 0
  · refine ⟨0, ?_, ?_⟩
    · intro Q h
      unfold wpX_writable
      exact xa_rp_0 hs hp (br_t rfl (xa_sl s p ⟨ps_in rfl h64, br_t (ps_z rfl h64 z) h⟩))
    · intro Q h
      unfold wpY_writable
      exact ya_sp0 hs (br_t rfl (ya_pg0 hp (br_t rfl ⟨ps_in (ps_slot' s p) h64, br_t (ps_z (ps_slot' s p) h64 z) h⟩)))
  · by_cases y : w (s * 32 + p) = 0
    · refine ⟨0, ?_, ?_⟩
      · intro Q h
        unfold wpX_writable
        exact xa_rp_0 hs hp (br_t rfl (xa_sl s p ⟨ps_in rfl h64, br_f (ps_n rfl h64 z) ⟨ps_in rfl h64, br_t (ps_z rfl h64 y) h⟩⟩))
      · intro Q h
        unfold wpY_writable
        exact ya_sp0 hs (br_t rfl (ya_pg0 hp (br_t rfl ⟨ps_in (ps_slot' s p) h64, br_f (ps_n (ps_slot' s p) h64 z) ⟨ps_in (ps_slot' s p) h64, br_t (ps_z (ps_slot' s p) h64 y) h⟩⟩)))
    · refine ⟨1, ?_, ?_⟩
      · intro Q h
        unfold wpX_writable
        exact xa_rp_0 hs hp (br_t rfl (xa_sl s p ⟨ps_in rfl h64, br_f (ps_n rfl h64 z) ⟨ps_in rfl h64, br_f (ps_n rfl h64 y) h⟩⟩))
      · intro Q h
        unfold wpY_writable
        exact ya_sp0 hs (br_t rfl (ya_pg0 hp (br_t rfl ⟨ps_in (ps_slot' s p) h64, br_f (ps_n (ps_slot' s p) h64 z) ⟨ps_in (ps_slot' s p) h64, br_f (ps_n (ps_slot' s p) h64 y) h⟩⟩)))
theorem ps_at {Q : Int32 → Prop} {x y : Int32} (e : x = y) (h : Q y) : Q x := e ▸ h
theorem ps_read {s p : Nat} (hs : s < 2) (hp : p < 32) :
    ∃ r : Int32, (∀ Q : Int32 → Prop, Q r → wpX_read Q (f, m, w, c) (nI s) (nI p)) ∧
      (∀ Q : Int32 → Prop, Q r → wpY_read Q (f, m, w, c) (nI s) (nI p)) := by
  have h64 : s * 32 + p < 64 := by omega
  by_cases z : m (s * 32 + p) = 0
  · refine ⟨0, ?_, ?_⟩
    · intro Q h
      unfold wpX_read
      exact xa_rp_0 hs hp (br_t rfl (xa_sl s p ⟨ps_in rfl h64, br_t (ps_z rfl h64 z) h⟩))
    · intro Q h
      unfold wpY_read
      exact ya_sp0 hs (br_t rfl (ya_pg0 hp (br_t rfl ⟨ps_in (ps_slot' s p) h64, br_t (ps_z (ps_slot' s p) h64 z) h⟩)))
  · refine ⟨c (s * 32 + p), ?_, ?_⟩
    · intro Q h
      unfold wpX_read
      exact xa_rp_0 hs hp (br_t rfl (xa_sl s p ⟨ps_in rfl h64, br_f (ps_n rfl h64 z) ⟨ps_in rfl h64, ps_at (Q := Q) (ps_v rfl h64) h⟩⟩))
    · intro Q h
      unfold wpY_read
      exact ya_sp0 hs (br_t rfl (ya_pg0 hp (br_t rfl ⟨ps_in (ps_slot' s p) h64, br_f (ps_n (ps_slot' s p) h64 z) ⟨ps_in (ps_slot' s p) h64, ps_at (Q := Q) (ps_v (ps_slot' s p) h64) h⟩⟩)))
theorem ps_write {s p : Nat} (hs : s < 2) (hp : p < 32) (v : Int32) :
    ∃ (r : Int32) (c' : Nat → Int32), (∀ P : Int32 → SX → Prop, P r (f, m, w, c') → wpX_write P (f, m, w, c) (nI s) (nI p) v) ∧
      (∀ P : Int32 → SY → Prop, P r (f, m, w, c') → wpY_write P (f, m, w, c) (nI s) (nI p) v) := by
  have h64 : s * 32 + p < 64 := by omega
  by_cases z : m (s * 32 + p) = 0
  · refine ⟨-3, c, ?_, ?_⟩
    · intro P h
      unfold wpX_write
      exact xa_rp_0 hs hp (br_t rfl (xa_sl s p ⟨ps_in rfl h64, br_t (ps_z rfl h64 z) h⟩))
    · intro P h
      unfold wpY_write
      exact ya_sp0 hs (br_t rfl (ya_pg0 hp (br_t rfl (nm_r (ps_slot' s p) ⟨ps_in rfl h64, br_t (ps_z rfl h64 z) h⟩))))
  · by_cases y : w (s * 32 + p) = 0
    · refine ⟨-4, c, ?_, ?_⟩
      · intro P h
        unfold wpX_write
        exact xa_rp_0 hs hp (br_t rfl (xa_sl s p ⟨ps_in rfl h64, br_f (ps_n rfl h64 z) ⟨ps_in rfl h64, br_t (ps_z rfl h64 y) h⟩⟩))
      · intro P h
        unfold wpY_write
        exact ya_sp0 hs (br_t rfl (ya_pg0 hp (br_t rfl (nm_r (ps_slot' s p) ⟨ps_in rfl h64, br_f (ps_n rfl h64 z) ⟨ps_in rfl h64, br_t (ps_z rfl h64 y) h⟩⟩))))
    · refine ⟨0, upd c (s * 32 + p) v, ?_, ?_⟩
      · intro P h
        unfold wpX_write
        exact xa_rp_0 hs hp (br_t rfl (xa_sl s p ⟨ps_in rfl h64, br_f (ps_n rfl h64 z) ⟨ps_in rfl h64, br_f (ps_n rfl h64 y) ⟨ps_in rfl h64, nm_r (ps_s rfl h64 rfl) h⟩⟩⟩))
      · intro P h
        unfold wpY_write
        exact ya_sp0 hs (br_t rfl (ya_pg0 hp (br_t rfl (nm_r (ps_slot' s p) ⟨ps_in rfl h64, br_f (ps_n rfl h64 z) ⟨ps_in rfl h64, br_f (ps_n rfl h64 y) ⟨ps_in rfl h64, nm_r (ps_s rfl h64 rfl) h⟩⟩⟩))))
end
