/-- both sides hold the same frames, at most 48, and the same three arrays; the two boolean arrays hold 0 and 1 alone -/
def i_Rel (_ : Nat) (u : SX) (v : SY) : Prop := ∃ (F : Nat) (m w c : Nat → Int32), u = (nI F, m, w, c) ∧ v = (nI F, m, w, c) ∧ F ≤ 48 ∧ ps_B m ∧ ps_B w
theorem ps_fin {k F : Nat} {m w c : Nat → Int32} (hF : F ≤ 48) (hm : ps_B m) (hw : ps_B w) : i_Rel k (nI F, m, w, c) (nI F, m, w, c) := ⟨F, m, w, c, rfl, rfl, hF, hm, hw⟩
theorem i_up {k : Nat} {u : SX} {v : SY} (h : i_Rel k u v) : i_Rel (k + 5) u v := h
theorem ps_fr {n : Nat} (hn : n ≤ 48) : nI n - (nI n - nI n / 8 * 8) = nI (n - n % 8) := by
  rw [show nI n - nI n / 8 * 8 = nI (n % 8) from pk_rem (d := 8) (by omega) (by omega) (by omega), pk_sub (Nat.mod_le n 8)]
theorem i_vc0 (k0 : Int32) : wpX_init (fun u => wpY_init (fun v => i_Rel 1 u v) k0) k0 := by
  by_cases h8 : 8 ≤ k0
  · by_cases h48 : k0 ≤ 48
    · have h0 : ¬ k0 < 0 := Int32.not_lt.mpr (Int32.le_trans (by decide) h8)
      obtain ⟨n, hn, rfl⟩ := nI_of h0
      have hn48 : n ≤ 48 := (nI_leI (b := 48) hn (by omega)).mp h48
      exact br_t h8 (br_t h48 (And.intro (by decide) (nm_r (ps_fr hn48) (br_t h8 (br_t h48 (And.intro (by decide) (nm_r (ps_fr hn48) (ps_fin (by omega) ps_B0 ps_B0))))))))
    · exact br_t h8 (br_f h48 (And.intro (by decide) (nm_r (ps_fr (n := 48) (by omega)) (br_t h8 (br_f h48 (And.intro (by decide) (nm_r (ps_fr (n := 48) (by omega)) (ps_fin (by omega) ps_B0 ps_B0))))))))
  · exact br_f h8 (br_t (by decide) (And.intro (by decide) (nm_r (ps_fr (n := 8) (by omega)) (br_f h8 (And.intro (by decide) (nm_r (ps_fr (n := 8) (by omega)) (ps_fin (by omega) ps_B0 ps_B0)))))))
theorem i_vc_frames {k : Nat} {u : SX} {v : SY} (I : i_Rel k u v) (hk : k + 5 ≤ 2561) : wpX_frames (fun r => wpY_frames (fun r' => r' = r ∧ i_Rel (k + 5) u v) v) u := by
  obtain ⟨F, m, w, c, rfl, rfl, hF, hm, hw⟩ := I
  exact ⟨rfl, ps_fin hF hm hw⟩
theorem i_vc_used {k : Nat} {u : SX} {v : SY} (I : i_Rel k u v) (hk : k + 5 ≤ 2561) : wpX_used (fun r => wpY_used (fun r' => r' = r ∧ i_Rel (k + 5) u v) v) u := by
  obtain ⟨F, m, w, c, rfl, rfl, hF, hm, hw⟩ := I
  exact xa_used (ya_used ⟨rfl, ps_fin hF hm hw⟩)
theorem i_vc_mappedIn {k : Nat} {u : SX} {v : SY} (I : i_Rel k u v) (hk : k + 5 ≤ 2561) (v1 : Int32) : wpX_mappedIn (fun r => wpY_mappedIn (fun r' => r' = r ∧ i_Rel (k + 5) u v) v v1) u v1 := by
  obtain ⟨F, m, w, c, rfl, rfl, hF, hm, hw⟩ := I
  rcases ps_sp v1 with ⟨s, hs, rfl⟩ | b1
  · exact xa_mappedIn hs (ya_mappedIn hs ⟨rfl, ps_fin hF hm hw⟩)
  · exact xr_mappedIn_1 b1 (yr_mappedIn_1 b1 ⟨rfl, ps_fin hF hm hw⟩)
theorem i_vc_map {k : Nat} {u : SX} {v : SY} (I : i_Rel k u v) (hk : k + 5 ≤ 2561) (v1 : Int32) (v2 : Int32) (v3 : Int32) : wpX_map (fun r u' => wpY_map (fun r' v' => r' = r ∧ i_Rel (k + 5) u' v') v v1 v2 v3) u v1 v2 v3 := by
  obtain ⟨F, m, w, c, rfl, rfl, hF, hm, hw⟩ := I
  rcases ps_sp v1 with ⟨s, hs, rfl⟩ | b1
  · rcases ps_rg v2 v3 with ⟨a, b, h1, h2, rfl, rfl⟩ | b2
    · obtain ⟨r, m', w', c', hm', hw', iX, iY⟩ := ps_map (c := c) hF hs h1 h2 hm hw
      exact iX _ (iY _ ⟨rfl, ps_fin hF hm' hw'⟩)
    · exact xr_map_2 hs b2 (yr_map_2 hs b2 ⟨rfl, ps_fin hF hm hw⟩)
  · exact xr_map_1 b1 (yr_map_1 b1 ⟨rfl, ps_fin hF hm hw⟩)
theorem i_vc_unmap {k : Nat} {u : SX} {v : SY} (I : i_Rel k u v) (hk : k + 5 ≤ 2561) (v1 : Int32) (v2 : Int32) (v3 : Int32) : wpX_unmap (fun r u' => wpY_unmap (fun r' v' => r' = r ∧ i_Rel (k + 5) u' v') v v1 v2 v3) u v1 v2 v3 := by
  obtain ⟨F, m, w, c, rfl, rfl, hF, hm, hw⟩ := I
  rcases ps_sp v1 with ⟨s, hs, rfl⟩ | b1
  · rcases ps_rg v2 v3 with ⟨a, b, h1, h2, rfl, rfl⟩ | b2
    · obtain ⟨r, m', hm', iX, iY⟩ := ps_unmap (f := nI F) (w := w) (c := c) hs h1 h2 hm
      exact iX _ (iY _ ⟨rfl, ps_fin hF hm' hw⟩)
    · exact xr_unmap_2 hs b2 (yr_unmap_2 hs b2 ⟨rfl, ps_fin hF hm hw⟩)
  · exact xr_unmap_1 b1 (yr_unmap_1 b1 ⟨rfl, ps_fin hF hm hw⟩)
theorem i_vc_protect {k : Nat} {u : SX} {v : SY} (I : i_Rel k u v) (hk : k + 5 ≤ 2561) (v1 : Int32) (v2 : Int32) (v3 : Int32) (v4 : Int32) : wpX_protect (fun r u' => wpY_protect (fun r' v' => r' = r ∧ i_Rel (k + 5) u' v') v v1 v2 v3 v4) u v1 v2 v3 v4 := by
  obtain ⟨F, m, w, c, rfl, rfl, hF, hm, hw⟩ := I
  rcases ps_sp v1 with ⟨s, hs, rfl⟩ | b1
  · rcases ps_rg v2 v3 with ⟨a, b, h1, h2, rfl, rfl⟩ | b2
    · obtain ⟨r, w', hw', iX, iY⟩ := ps_protect (f := nI F) (m := m) (c := c) hs h1 h2 hw v4
      exact iX _ (iY _ ⟨rfl, ps_fin hF hm hw'⟩)
    · exact xr_protect_2 hs b2 (yr_protect_2 hs b2 ⟨rfl, ps_fin hF hm hw⟩)
  · exact xr_protect_1 b1 (yr_protect_1 b1 ⟨rfl, ps_fin hF hm hw⟩)
theorem i_vc_mapped {k : Nat} {u : SX} {v : SY} (I : i_Rel k u v) (hk : k + 5 ≤ 2561) (v1 : Int32) (v2 : Int32) : wpX_mapped (fun r => wpY_mapped (fun r' => r' = r ∧ i_Rel (k + 5) u v) v v1 v2) u v1 v2 := by
  obtain ⟨F, m, w, c, rfl, rfl, hF, hm, hw⟩ := I
  rcases ps_sp v1 with ⟨s, hs, rfl⟩ | b1
  · rcases ps_pg v2 with ⟨p, hp, rfl⟩ | b2
    · obtain ⟨r, iX, iY⟩ := ps_mapped (f := nI F) (m := m) (w := w) (c := c) hs hp
      exact iX _ (iY _ ⟨rfl, ps_fin hF hm hw⟩)
    · exact xr_mapped_2 hs b2 (yr_mapped_2 hs b2 ⟨rfl, ps_fin hF hm hw⟩)
  · exact xr_mapped_1 b1 (yr_mapped_1 b1 ⟨rfl, ps_fin hF hm hw⟩)
theorem i_vc_writable {k : Nat} {u : SX} {v : SY} (I : i_Rel k u v) (hk : k + 5 ≤ 2561) (v1 : Int32) (v2 : Int32) : wpX_writable (fun r => wpY_writable (fun r' => r' = r ∧ i_Rel (k + 5) u v) v v1 v2) u v1 v2 := by
  obtain ⟨F, m, w, c, rfl, rfl, hF, hm, hw⟩ := I
  rcases ps_sp v1 with ⟨s, hs, rfl⟩ | b1
  · rcases ps_pg v2 with ⟨p, hp, rfl⟩ | b2
    · obtain ⟨r, iX, iY⟩ := ps_writable (f := nI F) (m := m) (w := w) (c := c) hs hp
      exact iX _ (iY _ ⟨rfl, ps_fin hF hm hw⟩)
    · exact xr_writable_2 hs b2 (yr_writable_2 hs b2 ⟨rfl, ps_fin hF hm hw⟩)
  · exact xr_writable_1 b1 (yr_writable_1 b1 ⟨rfl, ps_fin hF hm hw⟩)
theorem i_vc_read {k : Nat} {u : SX} {v : SY} (I : i_Rel k u v) (hk : k + 5 ≤ 2561) (v1 : Int32) (v2 : Int32) : wpX_read (fun r => wpY_read (fun r' => r' = r ∧ i_Rel (k + 5) u v) v v1 v2) u v1 v2 := by
  obtain ⟨F, m, w, c, rfl, rfl, hF, hm, hw⟩ := I
  rcases ps_sp v1 with ⟨s, hs, rfl⟩ | b1
  · rcases ps_pg v2 with ⟨p, hp, rfl⟩ | b2
    · obtain ⟨r, iX, iY⟩ := ps_read (f := nI F) (m := m) (w := w) (c := c) hs hp
      exact iX _ (iY _ ⟨rfl, ps_fin hF hm hw⟩)
    · exact xr_read_2 hs b2 (yr_read_2 hs b2 ⟨rfl, ps_fin hF hm hw⟩)
  · exact xr_read_1 b1 (yr_read_1 b1 ⟨rfl, ps_fin hF hm hw⟩)
theorem i_vc_nextMapped {k : Nat} {u : SX} {v : SY} (I : i_Rel k u v) (hk : k + 5 ≤ 2561) (v1 : Int32) (v2 : Int32) : wpX_nextMapped (fun r => wpY_nextMapped (fun r' => r' = r ∧ i_Rel (k + 5) u v) v v1 v2) u v1 v2 := by
  obtain ⟨F, m, w, c, rfl, rfl, hF, hm, hw⟩ := I
  rcases ps_sp v1 with ⟨s, hs, rfl⟩ | b1
  · rcases ps_pg v2 with ⟨p, hp, rfl⟩ | b2
    · obtain ⟨r, iX, iY⟩ := ps_next (f := nI F) (m := m) (w := w) (c := c) hs hp
      exact iX _ (iY _ ⟨rfl, ps_fin hF hm hw⟩)
    · exact xr_nextMapped_2 hs b2 (yr_nextMapped_2 hs b2 ⟨rfl, ps_fin hF hm hw⟩)
  · exact xr_nextMapped_1 b1 (yr_nextMapped_1 b1 ⟨rfl, ps_fin hF hm hw⟩)
theorem i_vc_write {k : Nat} {u : SX} {v : SY} (I : i_Rel k u v) (hk : k + 5 ≤ 2561) (v1 : Int32) (v2 : Int32) (v3 : Int32) : wpX_write (fun r u' => wpY_write (fun r' v' => r' = r ∧ i_Rel (k + 5) u' v') v v1 v2 v3) u v1 v2 v3 := by
  obtain ⟨F, m, w, c, rfl, rfl, hF, hm, hw⟩ := I
  rcases ps_sp v1 with ⟨s, hs, rfl⟩ | b1
  · rcases ps_pg v2 with ⟨p, hp, rfl⟩ | b2
    · obtain ⟨r, c', iX, iY⟩ := ps_write (f := nI F) (m := m) (w := w) (c := c) hs hp v3
      exact iX _ (iY _ ⟨rfl, ps_fin hF hm hw⟩)
    · exact xr_write_2 hs b2 (yr_write_2 hs b2 ⟨rfl, ps_fin hF hm hw⟩)
  · exact xr_write_1 b1 (yr_write_1 b1 ⟨rfl, ps_fin hF hm hw⟩)
theorem i_vc_touch {k : Nat} {u : SX} {v : SY} (I : i_Rel k u v) (hk : k + 5 ≤ 2561) (v1 : Int32) (v2 : Int32) (v3 : Int32) : wpX_touch (fun r u' => wpY_touch (fun r' v' => r' = r ∧ i_Rel (k + 5) u' v') v v1 v2 v3) u v1 v2 v3 := by
  obtain ⟨F, m, w, c, rfl, rfl, hF, hm, hw⟩ := I
  rcases ps_sp v1 with ⟨s, hs, rfl⟩ | b1
  · rcases ps_pg v2 with ⟨p, hp, rfl⟩ | b2
    · obtain ⟨r, m', w', c', hm', hw', iX, iY⟩ := ps_touch (c := c) hF hs hp hm hw v3
      exact iX _ (iY _ ⟨rfl, ps_fin hF hm' hw'⟩)
    · exact xr_touch_2 hs b2 (yr_touch_2 hs b2 ⟨rfl, ps_fin hF hm hw⟩)
  · exact xr_touch_1 b1 (yr_touch_1 b1 ⟨rfl, ps_fin hF hm hw⟩)
theorem i_vc_stamp {k : Nat} {u : SX} {v : SY} (I : i_Rel k u v) (hk : k + 5 ≤ 2561) (v1 : Int32) (v2 : Int32) (v3 : Int32) : wpX_stamp (fun r u' => wpY_stamp (fun r' v' => r' = r ∧ i_Rel (k + 5) u' v') v v1 v2 v3) u v1 v2 v3 := by
  obtain ⟨F, m, w, c, rfl, rfl, hF, hm, hw⟩ := I
  rcases ps_sp v1 with ⟨s, hs, rfl⟩ | b1
  · by_cases h0 : v2 < 0
    · exact xr_stamp_2 hs h0 (yr_stamp_2 hs h0 ⟨rfl, ps_fin hF hm hw⟩)
    · rcases ps_rg (v2 / 64) (v2 - v2 / 64 * 64) with ⟨a, b, h1, h2, ea, eb⟩ | b2
      · obtain ⟨r, c', iX, iY⟩ := ps_stamp (f := nI F) (m := m) (w := w) (c := c) hs h0 h1 h2 ea eb v3
        exact iX _ (iY _ ⟨rfl, ps_fin hF hm hw⟩)
      · exact xr_stamp_3 hs h0 b2 (yr_stamp_3 hs h0 b2 ⟨rfl, ps_fin hF hm hw⟩)
  · exact xr_stamp_1 b1 (yr_stamp_1 b1 ⟨rfl, ps_fin hF hm hw⟩)
theorem i_vc_remap {k : Nat} {u : SX} {v : SY} (I : i_Rel k u v) (hk : k + 5 ≤ 2561) (v1 : Int32) (v2 : Int32) (v3 : Int32) : wpX_remap (fun r u' => wpY_remap (fun r' v' => r' = r ∧ i_Rel (k + 5) u' v') v v1 v2 v3) u v1 v2 v3 := by
  obtain ⟨F, m, w, c, rfl, rfl, hF, hm, hw⟩ := I
  rcases ps_sp v1 with ⟨s, hs, rfl⟩ | b1
  · rcases ps_pg v2 with ⟨p, hp, rfl⟩ | b2
    · rcases ps_pg v3 with ⟨q, hq, rfl⟩ | b3
      · obtain ⟨r, m', w', c', hm', hw', iX, iY⟩ := ps_remap (f := nI F) (c := c) hs hp hq hm hw
        exact iX _ (iY _ ⟨rfl, ps_fin hF hm' hw'⟩)
      · exact xr_remap_3 hs hp b3 (yr_remap_3 hs hp b3 ⟨rfl, ps_fin hF hm hw⟩)
    · exact xr_remap_2 hs b2 (yr_remap_2 hs b2 ⟨rfl, ps_fin hF hm hw⟩)
  · exact xr_remap_1 b1 (yr_remap_1 b1 ⟨rfl, ps_fin hF hm hw⟩)
theorem i_vc_duplicate {k : Nat} {u : SX} {v : SY} (I : i_Rel k u v) (hk : k + 5 ≤ 2561) (v1 : Int32) (v2 : Int32) : wpX_duplicate (fun r u' => wpY_duplicate (fun r' v' => r' = r ∧ i_Rel (k + 5) u' v') v v1 v2) u v1 v2 := by
  obtain ⟨F, m, w, c, rfl, rfl, hF, hm, hw⟩ := I
  rcases ps_sp v1 with ⟨s, hs, rfl⟩ | b1
  · rcases ps_pg v2 with ⟨p, hp, rfl⟩ | b2
    · obtain ⟨r, m', w', c', hm', hw', iX, iY⟩ := ps_duplicate (c := c) hF hs hp hm hw
      exact iX _ (iY _ ⟨rfl, ps_fin hF hm' hw'⟩)
    · exact xr_duplicate_2 hs b2 (yr_duplicate_2 hs b2 ⟨rfl, ps_fin hF hm hw⟩)
  · exact xr_duplicate_1 b1 (yr_duplicate_1 b1 ⟨rfl, ps_fin hF hm hw⟩)
theorem i_vc_exchange {k : Nat} {u : SX} {v : SY} (I : i_Rel k u v) (hk : k + 5 ≤ 2561) (v1 : Int32) : wpX_exchange (fun r u' => wpY_exchange (fun r' v' => r' = r ∧ i_Rel (k + 5) u' v') v v1) u v1 := by
  obtain ⟨F, m, w, c, rfl, rfl, hF, hm, hw⟩ := I
  rcases ps_pg v1 with ⟨p, hp, rfl⟩ | b1
  · obtain ⟨r, m', w', c', hm', hw', iX, iY⟩ := ps_exchange (f := nI F) (c := c) hp hm hw
    exact iX _ (iY _ ⟨rfl, ps_fin hF hm' hw'⟩)
  · exact xr_exchange_1 b1 (yr_exchange_1 b1 ⟨rfl, ps_fin hF hm hw⟩)
theorem i_vc_sum {k : Nat} {u : SX} {v : SY} (I : i_Rel k u v) (hk : k + 5 ≤ 2561) (v1 : Int32) : wpX_sum (fun r => wpY_sum (fun r' => r' = r ∧ i_Rel (k + 5) u v) v v1) u v1 := by
  obtain ⟨F, m, w, c, rfl, rfl, hF, hm, hw⟩ := I
  rcases ps_sp v1 with ⟨s, hs, rfl⟩ | b1
  · obtain ⟨r, iX, iY⟩ := ps_sum (f := nI F) (m := m) (w := w) (c := c) hs
    exact iX _ (iY _ ⟨rfl, ps_fin hF hm hw⟩)
  · exact xr_sum_1 b1 (yr_sum_1 b1 ⟨rfl, ps_fin hF hm hw⟩)
