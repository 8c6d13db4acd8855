section
variable {f : Int32}
/-- map's filling loops, in lockstep -/
theorem ps_mapL {s a b e : Nat} (hs : s < 2) (x : Int32) (hab : a + b ≤ 32) (he : e = s * 32 + (a + b)) : ∀ (d p : Nat) (m w c : Nat → Int32), p + d = a + b → ps_B m → ps_B w →
    ∃ m' w' c' : Nat → Int32, ps_B m' ∧ ps_B w' ∧
      (∀ P : Int32 → SX → Prop, P x (f, m', w', c') → wX_map_57 P (nI e) x (d + 1) (nI (s * 32 + p)) f m w c) ∧
      (∀ P : Int32 → SY → Prop, P x (f, m', w', c') → wY_map_80 P (nI s) (nI a) (nI b) x (d + 1) (nI p) f m w c) := by
  intro d
  induction d with
  | zero =>
    intro p m w c hp hm hw
    exact ⟨m, w, c, hm, hw, fun P h => br_t (nI_le (by omega) (by omega)) h, fun P h => br_t (ps_yle (by omega) (by omega)) h⟩
  | succ d ih =>
    intro p m w c hp hm hw
    have h64 : s * 32 + p < 64 := by omega
    have hX : ¬ nI e ≤ nI (s * 32 + p) := nI_ge (by omega) (by omega)
    have hY : ¬ nI a + nI b ≤ nI p := ps_ynle (by omega) (by omega)
    by_cases z : m (s * 32 + p) = 0
    · obtain ⟨m', w', c', hm', hw', iX, iY⟩ := ih (p + 1) (upd m (s * 32 + p) 1) (upd w (s * 32 + p) 1) (upd c (s * 32 + p) 0) (by omega) (ps_Bu hm _ (Or.inr rfl)) (ps_Bu hw _ (Or.inr rfl))
      exact ⟨m', w', c', hm', hw',
        fun P h => br_f hX ⟨ps_in rfl h64, br_t (ps_z rfl h64 z) (xa_fill rfl h64 ps_b1 rfl (nm_r (nI_1 _) (iX P h)))⟩,
        fun P h => br_f hY ⟨ps_in (ps_slot' s p) h64, br_t (ps_z (ps_slot' s p) h64 z) (ya_make (ps_slot' s p) h64 (nm_r (nI_1 _) (iY P h)))⟩⟩
    · obtain ⟨m', w', c', hm', hw', iX, iY⟩ := ih (p + 1) m w c (by omega) hm hw
      exact ⟨m', w', c', hm', hw',
        fun P h => br_f hX ⟨ps_in rfl h64, br_f (ps_n rfl h64 z) (nm_r (nI_1 _) (iX P h))⟩,
        fun P h => br_f hY ⟨ps_in (ps_slot' s p) h64, br_f (ps_n (ps_slot' s p) h64 z) (nm_r (nI_1 _) (iY P h))⟩⟩
/-- the reference counts what is not there -/
theorem ya_m28 {s a b : Nat} {m w c : Nat → Int32} {P : Int32 → SY → Prop} (hs : s < 2) (hab : a + b ≤ 32) : ∀ d p k t : Nat, p + d = a + b → t + ps_cnt m (s * 32 + p) d = k + d →
    ((nI (ps_cnt m 0 64) + nI t ≤ f → ∃ n : Nat, wY_map_80 P (nI s) (nI a) (nI b) (nI t) n (nI a) f m w c) ∧ (¬ nI (ps_cnt m 0 64) + nI t ≤ f → P (-3) (f, m, w, c))) →
    wY_map_28 P (nI s) (nI a) (nI b) f m w c (d + 1) (nI k) (nI p) := by
  intro d
  induction d with
  | zero =>
    intro p k t hp ht h
    have e0 : t = k := ht
    subst e0
    exact br_t (ps_yle (by omega) (by omega)) (ya_used h)
  | succ d ih =>
    intro p k t hp ht h
    have h64 : s * 32 + p < 64 := by omega
    have hY : ¬ nI a + nI b ≤ nI p := ps_ynle (by omega) (by omega)
    have hc := ps_cnt_le m d (s * 32 + p + 1)
    refine br_f hY ⟨ps_in (ps_slot' s p) h64, ?_⟩
    by_cases z : m (s * 32 + p) = 0
    · rw [ps_cnt_f z] at ht
      exact br_t (ps_z (ps_slot' s p) h64 z) (nm_r (nI_1 k) (nm_r (nI_1 p) (ih (p + 1) (k + 1) t (by omega) (ht.trans (by omega)) h)))
    · rw [ps_cnt_t z] at ht
      have ht' : t + ps_cnt m (s * 32 + p + 1) d = k + d := by omega
      exact br_f (ps_n (ps_slot' s p) h64 z) (nm_r (nI_1 p) (ih (p + 1) k t (by omega) ht' h))
/-- unmap's loops, in lockstep; the reference counts as it goes -/
theorem ps_unL {s a b e : Nat} {w c : Nat → Int32} (hs : s < 2) (x : Int32) (hab : a + b ≤ 32) (he : e = s * 32 + (a + b)) : ∀ (d p k t : Nat) (m : Nat → Int32), p + d = a + b → t = k + ps_cnt m (s * 32 + p) d → ps_B m →
    ∃ m' : Nat → Int32, ps_B m' ∧
      (∀ P : Int32 → SX → Prop, P x (f, m', w, c) → wX_unmap_43 P (nI e) x f (d + 1) (nI (s * 32 + p)) m w c) ∧
      (∀ P : Int32 → SY → Prop, P (nI t) (f, m', w, c) → wY_unmap_28 P (nI s) (nI a) (nI b) f (d + 1) (nI k) (nI p) m w c) := by
  intro d
  induction d with
  | zero =>
    intro p k t m hp ht hm
    have e0 : t = k := ht
    subst e0
    exact ⟨m, hm, fun P h => br_t (nI_le (by omega) (by omega)) h, fun P h => br_t (ps_yle (by omega) (by omega)) h⟩
  | succ d ih =>
    intro p k t m hp ht hm
    have h64 : s * 32 + p < 64 := by omega
    have hX : ¬ nI e ≤ nI (s * 32 + p) := nI_ge (by omega) (by omega)
    have hY : ¬ nI a + nI b ≤ nI p := ps_ynle (by omega) (by omega)
    have hu : ps_cnt (upd m (s * 32 + p) 0) (s * 32 + p + 1) d = ps_cnt m (s * 32 + p + 1) d := ps_cnt_u m _ 0 d _ (by omega)
    by_cases z : m (s * 32 + p) = 0
    · rw [ps_cnt_f z, ← hu] at ht
      obtain ⟨m', hm', iX, iY⟩ := ih (p + 1) k t (upd m (s * 32 + p) 0) (by omega) ht (ps_Bu hm _ (Or.inl rfl))
      exact ⟨m', hm',
        fun P h => br_f hX ⟨ps_in rfl h64, nm_r (ps_s rfl h64 ps_b0) (nm_r (nI_1 _) (iX P h))⟩,
        fun P h => br_f hY ⟨ps_in (ps_slot' s p) h64, br_t (ps_z (ps_slot' s p) h64 z) (And.intro (ps_in (ps_slot' s p) h64) (nm_r (ps_s (ps_slot' s p) h64 ps_b0) (nm_r (nI_1 _) (iY P h))))⟩⟩
    · rw [ps_cnt_t z, ← hu, ← Nat.add_assoc] at ht
      obtain ⟨m', hm', iX, iY⟩ := ih (p + 1) (k + 1) t (upd m (s * 32 + p) 0) (by omega) ht (ps_Bu hm _ (Or.inl rfl))
      exact ⟨m', hm',
        fun P h => br_f hX ⟨ps_in rfl h64, nm_r (ps_s rfl h64 ps_b0) (nm_r (nI_1 _) (iX P h))⟩,
        fun P h => br_f hY ⟨ps_in (ps_slot' s p) h64, br_f (ps_n (ps_slot' s p) h64 z) (nm_r (nI_1 k) (And.intro (ps_in (ps_slot' s p) h64) (nm_r (ps_s (ps_slot' s p) h64 ps_b0) (nm_r (nI_1 _) (iY P h)))))⟩⟩
/-- protect's loops, in lockstep -/
theorem ps_prL {s a b e : Nat} {m c : Nat → Int32} {g : Int32} (hs : s < 2) (hg : g = 0 ∨ g = 1) (hab : a + b ≤ 32) (he : e = s * 32 + (a + b)) : ∀ (d p : Nat) (k : Int32) (w : Nat → Int32), p + d = a + b → ps_B w →
    ∃ (r : Int32) (w' : Nat → Int32), ps_B w' ∧
      (∀ P : Int32 → SX → Prop, P r (f, m, w', c) → wX_protect_48 P g (nI e) f (d + 1) k (nI (s * 32 + p)) m w c) ∧
      (∀ P : Int32 → SY → Prop, P r (f, m, w', c) → wY_protect_40 P (nI s) (nI a) (nI b) g f (d + 1) k (nI p) m w c) := by
  intro d
  induction d with
  | zero =>
    intro p k w hp hw
    exact ⟨k, w, hw, fun P h => br_t (nI_le (by omega) (by omega)) h, fun P h => br_t (ps_yle (by omega) (by omega)) h⟩
  | succ d ih =>
    intro p k w hp hw
    have h64 : s * 32 + p < 64 := by omega
    have hX : ¬ nI e ≤ nI (s * 32 + p) := nI_ge (by omega) (by omega)
    have hY : ¬ nI a + nI b ≤ nI p := ps_ynle (by omega) (by omega)
    have hv : w (nI (s * 32 + p)).toNatClampNeg = w (s * 32 + p) := ps_v rfl h64
    by_cases z : m (s * 32 + p) = 0
    · obtain ⟨r, w', hw', iX, iY⟩ := ih (p + 1) k w (by omega) hw
      exact ⟨r, w', hw',
        fun P h => br_f hX ⟨ps_in rfl h64, br_t (ps_z rfl h64 z) (nm_r (nI_1 _) (iX P h))⟩,
        fun P h => br_f hY (nm_r (ps_slot' s p) ⟨ps_in rfl h64, br_t (ps_z rfl h64 z) (nm_r (nI_1 _) (iY P h))⟩)⟩
    · by_cases y : w (s * 32 + p) = g
      · obtain ⟨r, w', hw', iX, iY⟩ := ih (p + 1) k w (by omega) hw
        exact ⟨r, w', hw',
          fun P h => br_f hX ⟨ps_in rfl h64, br_f (ps_n rfl h64 z) ⟨ps_in rfl h64, br_t (hv.trans y) (nm_r (nI_1 _) (iX P h))⟩⟩,
          fun P h => br_f hY (nm_r (ps_slot' s p) ⟨ps_in rfl h64, br_f (ps_n rfl h64 z) ⟨ps_in rfl h64, br_t (hv.trans y) (nm_r (nI_1 _) (iY P h))⟩⟩)⟩
      · obtain ⟨r, w', hw', iX, iY⟩ := ih (p + 1) (k + 1) (upd w (s * 32 + p) g) (by omega) (ps_Bu hw _ hg)
        have y' : ¬ w (nI (s * 32 + p)).toNatClampNeg = g := fun q => y (hv.symm.trans q)
        exact ⟨r, w', hw',
          fun P h => br_f hX ⟨ps_in rfl h64, br_f (ps_n rfl h64 z) ⟨ps_in rfl h64, br_f y' ⟨ps_in rfl h64, nm_r (ps_s rfl h64 (ps_bv hg)) (nm_e (nm_r (nI_1 _) (iX P h)))⟩⟩⟩,
          fun P h => br_f hY (nm_r (ps_slot' s p) ⟨ps_in rfl h64, br_f (ps_n rfl h64 z) ⟨ps_in rfl h64, br_f y' ⟨ps_in rfl h64, nm_r (ps_s rfl h64 (ps_bv hg)) (nm_e (nm_r (nI_1 _) (iY P h)))⟩⟩⟩)⟩
/-- stamp's loops, in lockstep -/
theorem ps_stL {s a b e : Nat} {m w : Nat → Int32} {v : Int32} (hs : s < 2) (hab : a + b ≤ 32) (he : e = s * 32 + (a + b)) : ∀ (d p : Nat) (k : Int32) (c : Nat → Int32), p + d = a + b →
    ∃ (r : Int32) (c' : Nat → Int32),
      (∀ P : Int32 → SX → Prop, P r (f, m, w, c') → wX_stamp_60 P v (nI e) f (d + 1) k (nI (s * 32 + p)) m w c) ∧
      (∀ P : Int32 → SY → Prop, P r (f, m, w, c') → wY_stamp_50 P (nI s) v (nI a) (nI b) f (d + 1) k (nI p) m w c) := by
  intro d
  induction d with
  | zero =>
    intro p k c hp
    exact ⟨k, c, fun P h => br_t (nI_le (by omega) (by omega)) h, fun P h => br_t (ps_yle (by omega) (by omega)) h⟩
  | succ d ih =>
    intro p k c hp
    have h64 : s * 32 + p < 64 := by omega
    have hX : ¬ nI e ≤ nI (s * 32 + p) := nI_ge (by omega) (by omega)
    have hY : ¬ nI a + nI b ≤ nI p := ps_ynle (by omega) (by omega)
    by_cases z : m (s * 32 + p) = 0
    · obtain ⟨r, c', iX, iY⟩ := ih (p + 1) k c (by omega)
      exact ⟨r, c',
        fun P h => br_f hX ⟨ps_in rfl h64, br_t (ps_z rfl h64 z) (nm_r (nI_1 _) (iX P h))⟩,
        fun P h => br_f hY (nm_r (ps_slot' s p) ⟨ps_in rfl h64, br_t (ps_z rfl h64 z) (nm_r (nI_1 _) (iY P h))⟩)⟩
    · obtain ⟨r, c', iX, iY⟩ := ih (p + 1) (k + 1) (upd c (s * 32 + p) (v + k)) (by omega)
      exact ⟨r, c',
        fun P h => br_f hX ⟨ps_in rfl h64, br_f (ps_n rfl h64 z) ⟨ps_in rfl h64, nm_r (ps_s rfl h64 rfl) (nm_e (nm_r (nI_1 _) (iX P h)))⟩⟩,
        fun P h => br_f hY (nm_r (ps_slot' s p) ⟨ps_in rfl h64, br_f (ps_n rfl h64 z) ⟨ps_in rfl h64, nm_r (ps_s rfl h64 rfl) (nm_e (nm_r (nI_1 _) (iY P h)))⟩⟩)⟩
/-- sum's loops, in lockstep -/
theorem ps_suL {s e : Nat} {m w c : Nat → Int32} (hs : s < 2) (he : e = s * 32 + 32) : ∀ (d p : Nat) (k : Int32), p + d = 32 →
    ∃ r : Int32,
      (∀ Q : Int32 → Prop, Q r → wX_sum_26 Q (nI e) f m w c (d + 1) k (nI (s * 32 + p))) ∧
      (∀ Q : Int32 → Prop, Q r → wY_sum_14 Q (nI s) f m w c (d + 1) k (nI p)) := by
  intro d
  induction d with
  | zero =>
    intro p k hp
    exact ⟨k, fun Q h => br_t (nI_le (by omega) (by omega)) h, fun Q h => br_t (nI_le (a := 32) (by omega) (by omega)) h⟩
  | succ d ih =>
    intro p k hp
    have h64 : s * 32 + p < 64 := by omega
    have hX : ¬ nI e ≤ nI (s * 32 + p) := nI_ge (by omega) (by omega)
    have hY : ¬ (32 : Int32) ≤ nI p := nI_ge (b := 32) (by omega) (by omega)
    by_cases z : m (s * 32 + p) = 0
    · obtain ⟨r, iX, iY⟩ := ih (p + 1) k (by omega)
      exact ⟨r,
        fun Q h => br_f hX ⟨ps_in rfl h64, br_t (ps_z rfl h64 z) (nm_r (nI_1 _) (iX Q h))⟩,
        fun Q h => br_f hY ⟨ps_in (ps_slot' s p) h64, br_t (ps_z (ps_slot' s p) h64 z) (nm_r (nI_1 _) (iY Q h))⟩⟩
    · obtain ⟨r, iX, iY⟩ := ih (p + 1) (k + c (s * 32 + p)) (by omega)
      exact ⟨r,
        fun Q h => br_f hX ⟨ps_in rfl h64, br_f (ps_n rfl h64 z) ⟨ps_in rfl h64, nm_r (congrArg (k + ·) (ps_v rfl h64)) (nm_r (nI_1 _) (iX Q h))⟩⟩,
        fun Q h => br_f hY ⟨ps_in (ps_slot' s p) h64, br_f (ps_n (ps_slot' s p) h64 z) ⟨ps_in (ps_slot' s p) h64, nm_r (congrArg (k + ·) (ps_v (ps_slot' s p) h64)) (nm_r (nI_1 _) (iY Q h))⟩⟩⟩
/-- nextMapped's loops, in lockstep -/
theorem ps_nxL {s : Nat} {m w c : Nat → Int32} (hs : s < 2) : ∀ (d p : Nat), p + d = 32 →
    ∃ r : Int32,
      (∀ Q : Int32 → Prop, Q r → wX_nextMapped_15 Q (nI s) f m w c (d + 1) (nI p)) ∧
      (∀ Q : Int32 → Prop, Q r → wY_nextMapped_23 Q (nI s) f m w c (d + 1) (nI p)) := by
  intro d
  induction d with
  | zero =>
    intro p hp
    exact ⟨-3, fun Q h => br_t (nI_le (a := 32) (by omega) (by omega)) h, fun Q h => br_t (nI_le (a := 32) (by omega) (by omega)) h⟩
  | succ d ih =>
    intro p hp
    have h64 : s * 32 + p < 64 := by omega
    have hY : ¬ (32 : Int32) ≤ nI p := nI_ge (b := 32) (by omega) (by omega)
    by_cases z : m (s * 32 + p) = 0
    · obtain ⟨r, iX, iY⟩ := ih (p + 1) (by omega)
      exact ⟨r,
        fun Q h => br_f hY (xa_sl s p ⟨ps_in rfl h64, br_t (ps_z rfl h64 z) (nm_r (nI_1 _) (iX Q h))⟩),
        fun Q h => br_f hY ⟨ps_in (ps_slot' s p) h64, br_t (ps_z (ps_slot' s p) h64 z) (nm_r (nI_1 _) (iY Q h))⟩⟩
    · exact ⟨nI p,
        fun Q h => br_f hY (xa_sl s p ⟨ps_in rfl h64, br_f (ps_n rfl h64 z) h⟩),
        fun Q h => br_f hY ⟨ps_in (ps_slot' s p) h64, br_f (ps_n (ps_slot' s p) h64 z) h⟩⟩
end
