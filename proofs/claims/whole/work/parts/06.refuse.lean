theorem xr_map_1 {f : Int32} {m w c : Nat → Int32} {P : Int32 → SX → Prop} {x y z : Int32} (b : ps_NS x) (h : P (-1) (f, m, w, c)) : wpX_map P (f, m, w, c) x y z := by
  unfold wpX_map
  exact xa_rr_1 b (br_f (by decide) h)
theorem yr_map_1 {f : Int32} {m w c : Nat → Int32} {P : Int32 → SX → Prop} {x y z : Int32} (b : ps_NS x) (h : P (-1) (f, m, w, c)) : wpY_map P (f, m, w, c) x y z := by
  unfold wpY_map
  exact ya_sp1 b (br_f (by decide) h)
theorem xr_map_2 {f : Int32} {m w c : Nat → Int32} {P : Int32 → SX → Prop} {s : Nat} {y z : Int32} (hs : s < 2) (b : ps_NR y z) (h : P (-2) (f, m, w, c)) : wpX_map P (f, m, w, c) (nI s) y z := by
  unfold wpX_map
  exact xa_rr_2 hs b (br_f (by decide) h)
theorem yr_map_2 {f : Int32} {m w c : Nat → Int32} {P : Int32 → SX → Prop} {s : Nat} {y z : Int32} (hs : s < 2) (b : ps_NR y z) (h : P (-2) (f, m, w, c)) : wpY_map P (f, m, w, c) (nI s) y z := by
  unfold wpY_map
  exact ya_sp0 hs (br_t rfl (ya_br1 b (br_f (by decide) h)))
theorem xr_unmap_1 {f : Int32} {m w c : Nat → Int32} {P : Int32 → SX → Prop} {x y z : Int32} (b : ps_NS x) (h : P (-1) (f, m, w, c)) : wpX_unmap P (f, m, w, c) x y z := by
  unfold wpX_unmap
  exact xa_rr_1 b (br_f (by decide) h)
theorem yr_unmap_1 {f : Int32} {m w c : Nat → Int32} {P : Int32 → SX → Prop} {x y z : Int32} (b : ps_NS x) (h : P (-1) (f, m, w, c)) : wpY_unmap P (f, m, w, c) x y z := by
  unfold wpY_unmap
  exact ya_sp1 b (br_f (by decide) h)
theorem xr_unmap_2 {f : Int32} {m w c : Nat → Int32} {P : Int32 → SX → Prop} {s : Nat} {y z : Int32} (hs : s < 2) (b : ps_NR y z) (h : P (-2) (f, m, w, c)) : wpX_unmap P (f, m, w, c) (nI s) y z := by
  unfold wpX_unmap
  exact xa_rr_2 hs b (br_f (by decide) h)
theorem yr_unmap_2 {f : Int32} {m w c : Nat → Int32} {P : Int32 → SX → Prop} {s : Nat} {y z : Int32} (hs : s < 2) (b : ps_NR y z) (h : P (-2) (f, m, w, c)) : wpY_unmap P (f, m, w, c) (nI s) y z := by
  unfold wpY_unmap
  exact ya_sp0 hs (br_t rfl (ya_br1 b (br_f (by decide) h)))
theorem xr_protect_1 {f : Int32} {m w c : Nat → Int32} {P : Int32 → SX → Prop} {x y z : Int32} {v : Int32} (b : ps_NS x) (h : P (-1) (f, m, w, c)) : wpX_protect P (f, m, w, c) x y z v := by
  unfold wpX_protect
  exact xa_rr_1 b (br_f (by decide) h)
theorem yr_protect_1 {f : Int32} {m w c : Nat → Int32} {P : Int32 → SX → Prop} {x y z : Int32} {v : Int32} (b : ps_NS x) (h : P (-1) (f, m, w, c)) : wpY_protect P (f, m, w, c) x y z v := by
  unfold wpY_protect
  exact ya_sp1 b (br_f (by decide) h)
theorem xr_protect_2 {f : Int32} {m w c : Nat → Int32} {P : Int32 → SX → Prop} {s : Nat} {y z : Int32} {v : Int32} (hs : s < 2) (b : ps_NR y z) (h : P (-2) (f, m, w, c)) : wpX_protect P (f, m, w, c) (nI s) y z v := by
  unfold wpX_protect
  exact xa_rr_2 hs b (br_f (by decide) h)
theorem yr_protect_2 {f : Int32} {m w c : Nat → Int32} {P : Int32 → SX → Prop} {s : Nat} {y z : Int32} {v : Int32} (hs : s < 2) (b : ps_NR y z) (h : P (-2) (f, m, w, c)) : wpY_protect P (f, m, w, c) (nI s) y z v := by
  unfold wpY_protect
  exact ya_sp0 hs (br_t rfl (ya_br1 b (br_f (by decide) h)))
theorem xr_mapped_1 {f : Int32} {m w c : Nat → Int32} {P : Int32 → Prop} {x y : Int32} (b : ps_NS x) (h : P (-1)) : wpX_mapped P (f, m, w, c) x y := by
  unfold wpX_mapped
  exact xa_rp_1 b (br_f (by decide) h)
theorem yr_mapped_1 {f : Int32} {m w c : Nat → Int32} {P : Int32 → Prop} {x y : Int32} (b : ps_NS x) (h : P (-1)) : wpY_mapped P (f, m, w, c) x y := by
  unfold wpY_mapped
  exact ya_sp1 b (br_f (by decide) h)
theorem xr_mapped_2 {f : Int32} {m w c : Nat → Int32} {P : Int32 → Prop} {s : Nat} {y : Int32} (hs : s < 2) (b : ps_NP y) (h : P (-2)) : wpX_mapped P (f, m, w, c) (nI s) y := by
  unfold wpX_mapped
  exact xa_rp_2 hs b (br_f (by decide) h)
theorem yr_mapped_2 {f : Int32} {m w c : Nat → Int32} {P : Int32 → Prop} {s : Nat} {y : Int32} (hs : s < 2) (b : ps_NP y) (h : P (-2)) : wpY_mapped P (f, m, w, c) (nI s) y := by
  unfold wpY_mapped
  exact ya_sp0 hs (br_t rfl (ya_pg1 b (br_f (by decide) h)))
theorem xr_writable_1 {f : Int32} {m w c : Nat → Int32} {P : Int32 → Prop} {x y : Int32} (b : ps_NS x) (h : P (-1)) : wpX_writable P (f, m, w, c) x y := by
  unfold wpX_writable
  exact xa_rp_1 b (br_f (by decide) h)
theorem yr_writable_1 {f : Int32} {m w c : Nat → Int32} {P : Int32 → Prop} {x y : Int32} (b : ps_NS x) (h : P (-1)) : wpY_writable P (f, m, w, c) x y := by
  unfold wpY_writable
  exact ya_sp1 b (br_f (by decide) h)
theorem xr_writable_2 {f : Int32} {m w c : Nat → Int32} {P : Int32 → Prop} {s : Nat} {y : Int32} (hs : s < 2) (b : ps_NP y) (h : P (-2)) : wpX_writable P (f, m, w, c) (nI s) y := by
  unfold wpX_writable
  exact xa_rp_2 hs b (br_f (by decide) h)
theorem yr_writable_2 {f : Int32} {m w c : Nat → Int32} {P : Int32 → Prop} {s : Nat} {y : Int32} (hs : s < 2) (b : ps_NP y) (h : P (-2)) : wpY_writable P (f, m, w, c) (nI s) y := by
  unfold wpY_writable
  exact ya_sp0 hs (br_t rfl (ya_pg1 b (br_f (by decide) h)))
theorem xr_read_1 {f : Int32} {m w c : Nat → Int32} {P : Int32 → Prop} {x y : Int32} (b : ps_NS x) (h : P 0) : wpX_read P (f, m, w, c) x y := by
  unfold wpX_read
  exact xa_rp_1 b (br_f (by decide) h)
theorem yr_read_1 {f : Int32} {m w c : Nat → Int32} {P : Int32 → Prop} {x y : Int32} (b : ps_NS x) (h : P 0) : wpY_read P (f, m, w, c) x y := by
  unfold wpY_read
  exact ya_sp1 b (br_f (by decide) h)
theorem xr_read_2 {f : Int32} {m w c : Nat → Int32} {P : Int32 → Prop} {s : Nat} {y : Int32} (hs : s < 2) (b : ps_NP y) (h : P 0) : wpX_read P (f, m, w, c) (nI s) y := by
  unfold wpX_read
  exact xa_rp_2 hs b (br_f (by decide) h)
theorem yr_read_2 {f : Int32} {m w c : Nat → Int32} {P : Int32 → Prop} {s : Nat} {y : Int32} (hs : s < 2) (b : ps_NP y) (h : P 0) : wpY_read P (f, m, w, c) (nI s) y := by
  unfold wpY_read
  exact ya_sp0 hs (br_t rfl (ya_pg1 b (br_f (by decide) h)))
theorem xr_nextMapped_1 {f : Int32} {m w c : Nat → Int32} {P : Int32 → Prop} {x y : Int32} (b : ps_NS x) (h : P (-1)) : wpX_nextMapped P (f, m, w, c) x y := by
  unfold wpX_nextMapped
  exact xa_rp_1 b (br_f (by decide) h)
theorem yr_nextMapped_1 {f : Int32} {m w c : Nat → Int32} {P : Int32 → Prop} {x y : Int32} (b : ps_NS x) (h : P (-1)) : wpY_nextMapped P (f, m, w, c) x y := by
  unfold wpY_nextMapped
  exact ya_sp1 b (br_f (by decide) h)
theorem xr_nextMapped_2 {f : Int32} {m w c : Nat → Int32} {P : Int32 → Prop} {s : Nat} {y : Int32} (hs : s < 2) (b : ps_NP y) (h : P (-2)) : wpX_nextMapped P (f, m, w, c) (nI s) y := by
  unfold wpX_nextMapped
  exact xa_rp_2 hs b (br_f (by decide) h)
theorem yr_nextMapped_2 {f : Int32} {m w c : Nat → Int32} {P : Int32 → Prop} {s : Nat} {y : Int32} (hs : s < 2) (b : ps_NP y) (h : P (-2)) : wpY_nextMapped P (f, m, w, c) (nI s) y := by
  unfold wpY_nextMapped
  exact ya_sp0 hs (br_t rfl (ya_pg1 b (br_f (by decide) h)))
theorem xr_write_1 {f : Int32} {m w c : Nat → Int32} {P : Int32 → SX → Prop} {x y : Int32} {v : Int32} (b : ps_NS x) (h : P (-1) (f, m, w, c)) : wpX_write P (f, m, w, c) x y v := by
  unfold wpX_write
  exact xa_rp_1 b (br_f (by decide) h)
theorem yr_write_1 {f : Int32} {m w c : Nat → Int32} {P : Int32 → SX → Prop} {x y : Int32} {v : Int32} (b : ps_NS x) (h : P (-1) (f, m, w, c)) : wpY_write P (f, m, w, c) x y v := by
  unfold wpY_write
  exact ya_sp1 b (br_f (by decide) h)
theorem xr_write_2 {f : Int32} {m w c : Nat → Int32} {P : Int32 → SX → Prop} {s : Nat} {y : Int32} {v : Int32} (hs : s < 2) (b : ps_NP y) (h : P (-2) (f, m, w, c)) : wpX_write P (f, m, w, c) (nI s) y v := by
  unfold wpX_write
  exact xa_rp_2 hs b (br_f (by decide) h)
theorem yr_write_2 {f : Int32} {m w c : Nat → Int32} {P : Int32 → SX → Prop} {s : Nat} {y : Int32} {v : Int32} (hs : s < 2) (b : ps_NP y) (h : P (-2) (f, m, w, c)) : wpY_write P (f, m, w, c) (nI s) y v := by
  unfold wpY_write
  exact ya_sp0 hs (br_t rfl (ya_pg1 b (br_f (by decide) h)))
theorem xr_touch_1 {f : Int32} {m w c : Nat → Int32} {P : Int32 → SX → Prop} {x y : Int32} {v : Int32} (b : ps_NS x) (h : P (-1) (f, m, w, c)) : wpX_touch P (f, m, w, c) x y v := by
  unfold wpX_touch
  exact xa_rp_1 b (br_f (by decide) h)
theorem yr_touch_1 {f : Int32} {m w c : Nat → Int32} {P : Int32 → SX → Prop} {x y : Int32} {v : Int32} (b : ps_NS x) (h : P (-1) (f, m, w, c)) : wpY_touch P (f, m, w, c) x y v := by
  unfold wpY_touch
  exact ya_sp1 b (br_f (by decide) h)
theorem xr_touch_2 {f : Int32} {m w c : Nat → Int32} {P : Int32 → SX → Prop} {s : Nat} {y : Int32} {v : Int32} (hs : s < 2) (b : ps_NP y) (h : P (-2) (f, m, w, c)) : wpX_touch P (f, m, w, c) (nI s) y v := by
  unfold wpX_touch
  exact xa_rp_2 hs b (br_f (by decide) h)
theorem yr_touch_2 {f : Int32} {m w c : Nat → Int32} {P : Int32 → SX → Prop} {s : Nat} {y : Int32} {v : Int32} (hs : s < 2) (b : ps_NP y) (h : P (-2) (f, m, w, c)) : wpY_touch P (f, m, w, c) (nI s) y v := by
  unfold wpY_touch
  exact ya_sp0 hs (br_t rfl (ya_pg1 b (br_f (by decide) h)))
theorem xr_remap_1 {f : Int32} {m w c : Nat → Int32} {P : Int32 → SX → Prop} {x y : Int32} {v : Int32} (b : ps_NS x) (h : P (-1) (f, m, w, c)) : wpX_remap P (f, m, w, c) x y v := by
  unfold wpX_remap
  exact xa_rp_1 b (br_f (by decide) h)
theorem yr_remap_1 {f : Int32} {m w c : Nat → Int32} {P : Int32 → SX → Prop} {x y : Int32} {v : Int32} (b : ps_NS x) (h : P (-1) (f, m, w, c)) : wpY_remap P (f, m, w, c) x y v := by
  unfold wpY_remap
  exact ya_sp1 b (br_f (by decide) h)
theorem xr_remap_2 {f : Int32} {m w c : Nat → Int32} {P : Int32 → SX → Prop} {s : Nat} {y : Int32} {v : Int32} (hs : s < 2) (b : ps_NP y) (h : P (-2) (f, m, w, c)) : wpX_remap P (f, m, w, c) (nI s) y v := by
  unfold wpX_remap
  exact xa_rp_2 hs b (br_f (by decide) h)
theorem yr_remap_2 {f : Int32} {m w c : Nat → Int32} {P : Int32 → SX → Prop} {s : Nat} {y : Int32} {v : Int32} (hs : s < 2) (b : ps_NP y) (h : P (-2) (f, m, w, c)) : wpY_remap P (f, m, w, c) (nI s) y v := by
  unfold wpY_remap
  exact ya_sp0 hs (br_t rfl (ya_pg1 b (br_f (by decide) h)))
theorem xr_duplicate_1 {f : Int32} {m w c : Nat → Int32} {P : Int32 → SX → Prop} {x y : Int32} (b : ps_NS x) (h : P (-1) (f, m, w, c)) : wpX_duplicate P (f, m, w, c) x y := by
  unfold wpX_duplicate
  exact xa_rp_1 b (br_f (by decide) h)
theorem yr_duplicate_1 {f : Int32} {m w c : Nat → Int32} {P : Int32 → SX → Prop} {x y : Int32} (b : ps_NS x) (h : P (-1) (f, m, w, c)) : wpY_duplicate P (f, m, w, c) x y := by
  unfold wpY_duplicate
  exact ya_sp1 b (br_f (by decide) h)
theorem xr_duplicate_2 {f : Int32} {m w c : Nat → Int32} {P : Int32 → SX → Prop} {s : Nat} {y : Int32} (hs : s < 2) (b : ps_NP y) (h : P (-2) (f, m, w, c)) : wpX_duplicate P (f, m, w, c) (nI s) y := by
  unfold wpX_duplicate
  exact xa_rp_2 hs b (br_f (by decide) h)
theorem yr_duplicate_2 {f : Int32} {m w c : Nat → Int32} {P : Int32 → SX → Prop} {s : Nat} {y : Int32} (hs : s < 2) (b : ps_NP y) (h : P (-2) (f, m, w, c)) : wpY_duplicate P (f, m, w, c) (nI s) y := by
  unfold wpY_duplicate
  exact ya_sp0 hs (br_t rfl (ya_pg1 b (br_f (by decide) h)))
theorem xr_remap_3 {f : Int32} {m w c : Nat → Int32} {P : Int32 → SX → Prop} {s p : Nat} {v : Int32} (hs : s < 2) (hp : p < 32) (b : ps_NP v) (h : P (-2) (f, m, w, c)) : wpX_remap P (f, m, w, c) (nI s) (nI p) v := by
  unfold wpX_remap
  exact xa_rp_0 hs hp (br_t rfl (xa_pg0 b (br_t rfl h)))
theorem yr_remap_3 {f : Int32} {m w c : Nat → Int32} {P : Int32 → SX → Prop} {s p : Nat} {v : Int32} (hs : s < 2) (hp : p < 32) (b : ps_NP v) (h : P (-2) (f, m, w, c)) : wpY_remap P (f, m, w, c) (nI s) (nI p) v := by
  unfold wpY_remap
  exact ya_sp0 hs (br_t rfl (ya_pg0 hp (br_t rfl (ya_pg1 b (br_f (by decide) h)))))
theorem xr_mappedIn_1 {f : Int32} {m w c : Nat → Int32} {P : Int32 → Prop} {x : Int32} (b : ps_NS x) (h : P (-1)) : wpX_mappedIn P (f, m, w, c) x := by
  unfold wpX_mappedIn
  exact xa_sp0 b (br_t rfl h)
theorem yr_mappedIn_1 {f : Int32} {m w c : Nat → Int32} {P : Int32 → Prop} {x : Int32} (b : ps_NS x) (h : P (-1)) : wpY_mappedIn P (f, m, w, c) x := by
  unfold wpY_mappedIn
  exact ya_sp1 b (br_f (by decide) h)
theorem xr_sum_1 {f : Int32} {m w c : Nat → Int32} {P : Int32 → Prop} {x : Int32} (b : ps_NS x) (h : P 0) : wpX_sum P (f, m, w, c) x := by
  unfold wpX_sum
  exact xa_sp0 b (br_t rfl h)
theorem yr_sum_1 {f : Int32} {m w c : Nat → Int32} {P : Int32 → Prop} {x : Int32} (b : ps_NS x) (h : P 0) : wpY_sum P (f, m, w, c) x := by
  unfold wpY_sum
  exact ya_sp1 b (br_f (by decide) h)
theorem xr_exchange_1 {f : Int32} {m w c : Nat → Int32} {P : Int32 → SX → Prop} {x : Int32} (b : ps_NP x) (h : P (-1) (f, m, w, c)) : wpX_exchange P (f, m, w, c) x := by
  unfold wpX_exchange
  exact xa_pg0 b (br_t rfl h)
theorem yr_exchange_1 {f : Int32} {m w c : Nat → Int32} {P : Int32 → SX → Prop} {x : Int32} (b : ps_NP x) (h : P (-1) (f, m, w, c)) : wpY_exchange P (f, m, w, c) x := by
  unfold wpY_exchange
  exact ya_pg1 b (br_f (by decide) h)
theorem xr_stamp_1 {f : Int32} {m w c : Nat → Int32} {P : Int32 → SX → Prop} {x q v : Int32} (b : ps_NS x) (h : P (-1) (f, m, w, c)) : wpX_stamp P (f, m, w, c) x q v := by
  unfold wpX_stamp
  exact xa_sp0 b (br_t rfl h)
theorem yr_stamp_1 {f : Int32} {m w c : Nat → Int32} {P : Int32 → SX → Prop} {x q v : Int32} (b : ps_NS x) (h : P (-1) (f, m, w, c)) : wpY_stamp P (f, m, w, c) x q v := by
  unfold wpY_stamp
  exact ya_sp1 b (br_f (by decide) h)
theorem xr_stamp_2 {f : Int32} {m w c : Nat → Int32} {P : Int32 → SX → Prop} {s : Nat} {q v : Int32} (hs : s < 2) (b : q < 0) (h : P (-2) (f, m, w, c)) : wpX_stamp P (f, m, w, c) (nI s) q v := by
  unfold wpX_stamp
  exact xa_sp1 hs (br_f (by decide) ⟨by decide, nm_e ⟨by decide, nm_e (br_t b h)⟩⟩)
theorem yr_stamp_2 {f : Int32} {m w c : Nat → Int32} {P : Int32 → SX → Prop} {s : Nat} {q v : Int32} (hs : s < 2) (b : q < 0) (h : P (-2) (f, m, w, c)) : wpY_stamp P (f, m, w, c) (nI s) q v := by
  unfold wpY_stamp
  exact ya_sp0 hs (br_t rfl (br_f (Int32.not_le.mpr b) h))
theorem xr_stamp_3 {f : Int32} {m w c : Nat → Int32} {P : Int32 → SX → Prop} {s : Nat} {q v : Int32} (hs : s < 2) (h0 : ¬ q < 0) (b : ps_NR (q / 64) (q - q / 64 * 64)) (h : P (-2) (f, m, w, c)) : wpX_stamp P (f, m, w, c) (nI s) q v := by
  unfold wpX_stamp
  exact xa_sp1 hs (br_f (by decide) ⟨by decide, nm_e ⟨by decide, nm_e (br_f h0 (xa_gr0 b (br_t rfl h)))⟩⟩)
theorem yr_stamp_3 {f : Int32} {m w c : Nat → Int32} {P : Int32 → SX → Prop} {s : Nat} {q v : Int32} (hs : s < 2) (h0 : ¬ q < 0) (b : ps_NR (q / 64) (q - q / 64 * 64)) (h : P (-2) (f, m, w, c)) : wpY_stamp P (f, m, w, c) (nI s) q v := by
  unfold wpY_stamp
  exact ya_sp0 hs (br_t rfl (br_t (Int32.not_lt.mp h0) ⟨by decide, nm_e ⟨by decide, nm_e (ya_br1 b (br_f (by decide) h))⟩⟩))
