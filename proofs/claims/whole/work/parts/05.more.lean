section
variable {f : Int32} {m w c : Nat → Int32}
theorem xa_t72_1 {P : Int32 → SX → Prop} {i : Nat} {v : Int32} (hi : i < 64) (h : P 1 (f, upd m i 1, upd w i 1, upd c i v)) : wX_touch_72 P v (nI i) 1 f m w c := by
  unfold wX_touch_72
  exact xa_fill rfl hi ps_b1 rfl (br_f (by decide) h)
theorem xa_t72_0 {P : Int32 → SX → Prop} {i : Nat} {v : Int32} (hi : i < 64) (h : P 0 (f, upd m i 1, upd w i 1, upd c i v)) : wX_touch_72 P v (nI i) 0 f m w c := by
  unfold wX_touch_72
  exact xa_fill rfl hi ps_b1 rfl (br_t rfl h)
theorem ps_touch {F s p : Nat} (hF : F ≤ 48) (hs : s < 2) (hp : p < 32) (hm : ps_B m) (hw : ps_B w) (v : Int32) :
    ∃ (r : Int32) (m' w' c' : Nat → Int32), ps_B m' ∧ ps_B w' ∧
      (∀ P : Int32 → SX → Prop, P r (nI F, m', w', c') → wpX_touch P (nI F, m, w, c) (nI s) (nI p) v) ∧
      (∀ P : Int32 → SY → Prop, P r (nI F, m', w', c') → wpY_touch P (nI F, m, w, c) (nI s) (nI p) v) := by
  have h64 : s * 32 + p < 64 := by omega
  have hU := ps_cnt_le m 64 0
  by_cases z : m (s * 32 + p) = 0
  · by_cases hf : ps_cnt m 0 64 = F
    · refine ⟨-3, m, w, c, hm, hw, ?_, ?_⟩
      · intro P h
        unfold wpX_touch
        exact xa_rp_0 hs hp (br_t rfl (xa_sl s p ⟨ps_in rfl h64, br_t (ps_z rfl h64 z) (br_f (by decide) (xa_free (br_t ((ps_free0 (by omega) hU).mpr hf) h)))⟩))
      · intro P h
        unfold wpY_touch
        exact ya_sp0 hs (br_t rfl (ya_pg0 hp (br_t rfl (nm_r (ps_slot' s p) ⟨ps_in rfl h64, br_t (ps_z rfl h64 z) (ya_used (br_t (congrArg nI hf) h))⟩))))
    · have hf' : ¬ nI (ps_cnt m 0 64) = nI F := fun q => hf ((nI_eq (by omega) (by omega)).mp q)
      refine ⟨1, upd m (s * 32 + p) 1, upd w (s * 32 + p) 1, upd c (s * 32 + p) v, ps_Bu hm _ (Or.inr rfl), ps_Bu hw _ (Or.inr rfl), ?_, ?_⟩
      · intro P h
        unfold wpX_touch
        exact xa_rp_0 hs hp (br_t rfl (xa_sl s p ⟨ps_in rfl h64, br_t (ps_z rfl h64 z) (br_f (by decide) (xa_free (br_f (fun q => hf ((ps_free0 (by omega) hU).mp q)) (br_f (by decide) (xa_t72_1 h64 h)))))⟩))
      · intro P h
        unfold wpY_touch
        exact ya_sp0 hs (br_t rfl (ya_pg0 hp (br_t rfl (nm_r (ps_slot' s p) ⟨ps_in rfl h64, br_t (ps_z rfl h64 z) (ya_used (br_f hf' (ya_make rfl h64 h)))⟩))))
  · by_cases y : w (s * 32 + p) = 0
    · refine ⟨-4, m, w, c, hm, hw, ?_, ?_⟩
      · intro P h
        unfold wpX_touch
        exact xa_rp_0 hs hp (br_t rfl (xa_sl s p ⟨ps_in rfl h64, br_f (ps_n rfl h64 z) (br_t rfl (br_t rfl ⟨ps_in rfl h64, br_t (ps_z rfl h64 y) h⟩))⟩))
      · intro P h
        unfold wpY_touch
        exact ya_sp0 hs (br_t rfl (ya_pg0 hp (br_t rfl (nm_r (ps_slot' s p) ⟨ps_in rfl h64, br_f (ps_n rfl h64 z) ⟨ps_in rfl h64, br_t (ps_z rfl h64 y) h⟩⟩))))
    · refine ⟨0, m, w, upd c (s * 32 + p) v, hm, hw, ?_, ?_⟩
      · intro P h
        unfold wpX_touch
        refine xa_rp_0 hs hp (br_t rfl (xa_sl s p ⟨ps_in rfl h64, br_f (ps_n rfl h64 z) (br_t rfl (br_t rfl ⟨ps_in rfl h64, br_f (ps_n rfl h64 y) (xa_t72_0 h64 ?_)⟩))⟩))
        rw [ps_us (ps_B1 hm z), ps_us (ps_B1 hw y)]
        exact h
      · intro P h
        unfold wpY_touch
        exact ya_sp0 hs (br_t rfl (ya_pg0 hp (br_t rfl (nm_r (ps_slot' s p) ⟨ps_in rfl h64, br_f (ps_n rfl h64 z) ⟨ps_in rfl h64, br_f (ps_n rfl h64 y) ⟨ps_in rfl h64, nm_r (ps_s rfl h64 rfl) h⟩⟩⟩))))
theorem ps_stamp {s a b : Nat} {q : Int32} (hs : s < 2) (h0 : ¬ q < 0) (h1 : 1 ≤ b) (hab : a + b ≤ 32) (ea : q / 64 = nI a) (eb : q - q / 64 * 64 = nI b) (v : Int32) :
    ∃ (r : Int32) (c' : Nat → Int32),
      (∀ P : Int32 → SX → Prop, P r (f, m, w, c') → wpX_stamp P (f, m, w, c) (nI s) q v) ∧
      (∀ P : Int32 → SY → Prop, P r (f, m, w, c') → wpY_stamp P (f, m, w, c) (nI s) q v) := by
  obtain ⟨r, c', iX, iY⟩ := ps_stL (f := f) (m := m) (w := w) (v := v) (e := s * 32 + a + b) hs hab (by omega) b a 0 c rfl
  refine ⟨r, c', ?_, ?_⟩
  · intro P h
    unfold wpX_stamp
    exact xa_sp1 hs (br_f (by decide) ⟨by decide, nm_r ea ⟨by decide, nm_r eb (br_f h0 (xa_gr1 h1 hab (br_f (by decide) (xa_sl s a (nm_r (nI_add _ _) ⟨_, iX P h⟩)))))⟩⟩)
  · intro P h
    unfold wpY_stamp
    exact ya_sp0 hs (br_t rfl (br_t (Int32.not_lt.mp h0) ⟨by decide, nm_r ea ⟨by decide, nm_r eb (ya_br0 h1 hab (br_t rfl ⟨_, iY P h⟩))⟩⟩))
theorem ps_remap {s p q : Nat} (hs : s < 2) (hp : p < 32) (hq : q < 32) (hm : ps_B m) (hw : ps_B w) :
    ∃ (r : Int32) (m' w' c' : Nat → Int32), ps_B m' ∧ ps_B w' ∧
      (∀ P : Int32 → SX → Prop, P r (f, m', w', c') → wpX_remap P (f, m, w, c) (nI s) (nI p) (nI q)) ∧
      (∀ P : Int32 → SY → Prop, P r (f, m', w', c') → wpY_remap P (f, m, w, c) (nI s) (nI p) (nI q)) := by
  have hi : s * 32 + p < 64 := by omega
  have hj : s * 32 + q < 64 := by omega
  by_cases z : m (s * 32 + p) = 0
  · refine ⟨-3, m, w, c, hm, hw, ?_, ?_⟩
    · intro P h
      unfold wpX_remap
      exact xa_rp_0 hs hp (br_t rfl (xa_pg1 hq (br_f (by decide) (xa_sl s p (xa_sl s q ⟨ps_in rfl hi, br_t (ps_z rfl hi z) h⟩)))))
    · intro P h
      unfold wpY_remap
      exact ya_sp0 hs (br_t rfl (ya_pg0 hp (br_t rfl (ya_pg0 hq (br_t rfl ⟨ps_in (ps_slot' s p) hi, br_t (ps_z (ps_slot' s p) hi z) h⟩)))))
  · by_cases y : m (s * 32 + q) = 0
    · refine ⟨0, upd (upd m (s * 32 + q) 1) (s * 32 + p) 0, upd w (s * 32 + q) (w (s * 32 + p)), upd c (s * 32 + q) (c (s * 32 + p)), ps_Bu (ps_Bu hm _ (Or.inr rfl)) _ (Or.inl rfl), ps_Bu hw _ (hw _), ?_, ?_⟩
      · intro P h
        unfold wpX_remap
        have ew : vp_nar .boolean (w (nI (s * 32 + p)).toNatClampNeg) = w (s * 32 + p) := by rw [ps_v (m := w) rfl hi, ps_bv (hw _)]
        exact xa_rp_0 hs hp (br_t rfl (xa_pg1 hq (br_f (by decide) (xa_sl s p (xa_sl s q ⟨ps_in rfl hi, br_f (ps_n rfl hi z) ⟨ps_in rfl hj, br_t (ps_z rfl hj y) ⟨ps_in rfl hi, ps_in rfl hi, xa_fill rfl hj ew (ps_v rfl hi) ⟨ps_in rfl hi, nm_r (ps_s rfl hi ps_b0) h⟩⟩⟩⟩)))))
      · intro P h
        unfold wpY_remap
        exact ya_sp0 hs (br_t rfl (ya_pg0 hp (br_t rfl (ya_pg0 hq (br_t rfl ⟨ps_in (ps_slot' s p) hi, br_f (ps_n (ps_slot' s p) hi z) ⟨ps_in (ps_slot' s q) hj, br_t (ps_z (ps_slot' s q) hj y) (ya_copy (ps_slot' s p) hi (ps_slot' s q) hj hm hw (ps_B1 hm z) ⟨ps_in (ps_slot' s p) hi, nm_r (ps_s (ps_slot' s p) hi ps_b0) h⟩)⟩⟩)))))
    · refine ⟨-4, m, w, c, hm, hw, ?_, ?_⟩
      · intro P h
        unfold wpX_remap
        exact xa_rp_0 hs hp (br_t rfl (xa_pg1 hq (br_f (by decide) (xa_sl s p (xa_sl s q ⟨ps_in rfl hi, br_f (ps_n rfl hi z) ⟨ps_in rfl hj, br_f (ps_n rfl hj y) h⟩⟩)))))
      · intro P h
        unfold wpY_remap
        exact ya_sp0 hs (br_t rfl (ya_pg0 hp (br_t rfl (ya_pg0 hq (br_t rfl ⟨ps_in (ps_slot' s p) hi, br_f (ps_n (ps_slot' s p) hi z) ⟨ps_in (ps_slot' s q) hj, br_f (ps_n (ps_slot' s q) hj y) h⟩⟩)))))
theorem ps_duplicate {F s p : Nat} (hF : F ≤ 48) (hs : s < 2) (hp : p < 32) (hm : ps_B m) (hw : ps_B w) :
    ∃ (r : Int32) (m' w' c' : Nat → Int32), ps_B m' ∧ ps_B w' ∧
      (∀ P : Int32 → SX → Prop, P r (nI F, m', w', c') → wpX_duplicate P (nI F, m, w, c) (nI s) (nI p)) ∧
      (∀ P : Int32 → SY → Prop, P r (nI F, m', w', c') → wpY_duplicate P (nI F, m, w, c) (nI s) (nI p)) := by
  have hi : s * 32 + p < 64 := by omega
  have hj : (1 - s) * 32 + p < 64 := by omega
  have hU := ps_cnt_le m 64 0
  have e1 : 1 - nI s = nI (1 - s) := pk_sub (a := 1) (by omega)
  have eX : (1 - nI s) * 32 + nI p = nI ((1 - s) * 32 + p) := by rw [e1, ps_slot]
  have eY : 32 * (1 - nI s) + nI p = nI ((1 - s) * 32 + p) := by rw [e1, ps_slot']
  generalize (1 - s) * 32 + p = j at hj eX eY
  by_cases z : m (s * 32 + p) = 0
  · refine ⟨-3, m, w, c, hm, hw, ?_, ?_⟩
    · intro P h
      unfold wpX_duplicate
      exact xa_rp_0 hs hp (br_t rfl (xa_sl s p (xa_sl3 eX ⟨ps_in rfl hi, br_t (ps_z rfl hi z) h⟩)))
    · intro P h
      unfold wpY_duplicate
      exact ya_sp0 hs (br_t rfl (ya_pg0 hp (br_t rfl ⟨ps_in (ps_slot' s p) hi, br_t (ps_z (ps_slot' s p) hi z) h⟩)))
  · by_cases y : m j = 0
    · by_cases hf : ps_cnt m 0 64 = F
      · refine ⟨-5, m, w, c, hm, hw, ?_, ?_⟩
        · intro P h
          unfold wpX_duplicate
          exact xa_rp_0 hs hp (br_t rfl (xa_sl s p (xa_sl3 eX ⟨ps_in rfl hi, br_f (ps_n rfl hi z) ⟨ps_in rfl hj, br_t (ps_z rfl hj y) (xa_free (br_t ((ps_free0 (by omega) hU).mpr hf) h))⟩⟩)))
        · intro P h
          unfold wpY_duplicate
          exact ya_sp0 hs (br_t rfl (ya_pg0 hp (br_t rfl ⟨ps_in (ps_slot' s p) hi, br_f (ps_n (ps_slot' s p) hi z) ⟨ps_in eY hj, br_t (ps_z eY hj y) (ya_used (br_t (congrArg nI hf) h))⟩⟩)))
      · have hf' : ¬ nI (ps_cnt m 0 64) = nI F := fun q => hf ((nI_eq (by omega) (by omega)).mp q)
        have ew : vp_nar .boolean (w (nI (s * 32 + p)).toNatClampNeg) = w (s * 32 + p) := by rw [ps_v (m := w) rfl hi, ps_bv (hw _)]
        refine ⟨0, upd m j 1, upd w j (w (s * 32 + p)), upd c j (c (s * 32 + p)), ps_Bu hm _ (Or.inr rfl), ps_Bu hw _ (hw _), ?_, ?_⟩
        · intro P h
          unfold wpX_duplicate
          exact xa_rp_0 hs hp (br_t rfl (xa_sl s p (xa_sl3 eX ⟨ps_in rfl hi, br_f (ps_n rfl hi z) ⟨ps_in rfl hj, br_t (ps_z rfl hj y) (xa_free (br_f (fun q => hf ((ps_free0 (by omega) hU).mp q)) ⟨ps_in rfl hi, ps_in rfl hi, xa_fill rfl hj ew (ps_v rfl hi) h⟩))⟩⟩)))
        · intro P h
          unfold wpY_duplicate
          exact ya_sp0 hs (br_t rfl (ya_pg0 hp (br_t rfl ⟨ps_in (ps_slot' s p) hi, br_f (ps_n (ps_slot' s p) hi z) ⟨ps_in eY hj, br_t (ps_z eY hj y) (ya_used (br_f hf' (ya_copy (ps_slot' s p) hi eY hj hm hw (ps_B1 hm z) h)))⟩⟩)))
    · refine ⟨-4, m, w, c, hm, hw, ?_, ?_⟩
      · intro P h
        unfold wpX_duplicate
        exact xa_rp_0 hs hp (br_t rfl (xa_sl s p (xa_sl3 eX ⟨ps_in rfl hi, br_f (ps_n rfl hi z) ⟨ps_in rfl hj, br_f (ps_n rfl hj y) h⟩⟩)))
      · intro P h
        unfold wpY_duplicate
        exact ya_sp0 hs (br_t rfl (ya_pg0 hp (br_t rfl ⟨ps_in (ps_slot' s p) hi, br_f (ps_n (ps_slot' s p) hi z) ⟨ps_in eY hj, br_f (ps_n eY hj y) h⟩⟩)))
theorem ps_exchange {p : Nat} (hp : p < 32) (hm : ps_B m) (hw : ps_B w) :
    ∃ (r : Int32) (m' w' c' : Nat → Int32), ps_B m' ∧ ps_B w' ∧
      (∀ P : Int32 → SX → Prop, P r (f, m', w', c') → wpX_exchange P (f, m, w, c) (nI p)) ∧
      (∀ P : Int32 → SY → Prop, P r (f, m', w', c') → wpY_exchange P (f, m, w, c) (nI p)) := by
  have hi : p < 64 := by omega
  have hj : 32 + p < 64 := by omega
  have e0 : 0 * 32 + nI p = nI p := by rw [show (0 : Int32) * 32 = nI 0 from rfl, nI_add, Nat.zero_add]
  have e1 : 1 * 32 + nI p = nI (32 + p) := by rw [show (1 : Int32) * 32 = nI 32 from rfl, nI_add]
  have eY : 32 + nI p = nI (32 + p) := nI_add 32 p
  have em : vp_nar .boolean (m (nI (32 + p)).toNatClampNeg) = m (32 + p) := by rw [ps_v (m := m) rfl hj, ps_bv (hm _)]
  have ew : vp_nar .boolean (w (nI (32 + p)).toNatClampNeg) = w (32 + p) := by rw [ps_v (m := w) rfl hj, ps_bv (hw _)]
  refine ⟨0, upd (upd m p (m (32 + p))) (32 + p) (m p), upd (upd w p (w (32 + p))) (32 + p) (w p), upd (upd c p (c (32 + p))) (32 + p) (c p), ps_Bu (ps_Bu hm _ (hm _)) _ (hm _), ps_Bu (ps_Bu hw _ (hw _)) _ (hw _), ?_, ?_⟩
  · intro P h
    unfold wpX_exchange
    exact xa_pg1 hp (br_f (by decide) (xa_sl3 e0 (xa_sl3 e1 ⟨ps_in rfl hi, nm_r (ps_v rfl hi) ⟨ps_in rfl hi, nm_r (ps_v rfl hi) ⟨ps_in rfl hi, nm_r (ps_v rfl hi)
      ⟨ps_in rfl hj, ps_in rfl hi, nm_r (ps_s rfl hi em) ⟨ps_in rfl hj, ps_in rfl hi, nm_r (ps_s rfl hi ew) ⟨ps_in rfl hj, ps_in rfl hi, nm_r (ps_s rfl hi (ps_v rfl hj))
      ⟨ps_in rfl hj, nm_r (ps_s rfl hj (ps_bv (hm p))) ⟨ps_in rfl hj, nm_r (ps_s rfl hj (ps_bv (hw p))) ⟨ps_in rfl hj, nm_r (ps_s rfl hj rfl) h⟩⟩⟩⟩⟩⟩⟩⟩⟩)))
  · intro P h
    unfold wpY_exchange
    exact ya_pg0 hp (br_t rfl ⟨ps_in rfl hi, nm_r (ps_v rfl hi) ⟨ps_in rfl hi, nm_r (ps_v rfl hi) ⟨ps_in rfl hi, nm_r (ps_v rfl hi)
      (ya_copy eY hj rfl hi hm hw rfl ⟨ps_in eY hj, nm_r (ps_s eY hj (ps_bv (hm p))) ⟨ps_in eY hj, nm_r (ps_s eY hj (ps_bv (hw p))) ⟨ps_in eY hj, nm_r (ps_s eY hj rfl) h⟩⟩⟩)⟩⟩⟩)
theorem ps_sum {s : Nat} (hs : s < 2) :
    ∃ r : Int32, (∀ Q : Int32 → Prop, Q r → wpX_sum Q (f, m, w, c) (nI s)) ∧
      (∀ Q : Int32 → Prop, Q r → wpY_sum Q (f, m, w, c) (nI s)) := by
  obtain ⟨r, iX, iY⟩ := ps_suL (f := f) (m := m) (w := w) (c := c) (e := s * 32 + 0 + 32) hs (by omega) 32 0 0 rfl
  refine ⟨r, ?_, ?_⟩
  · intro Q h
    unfold wpX_sum
    exact xa_sp1 hs (br_f (by decide) (xa_sl s 0 (nm_r (nI_add (s * 32 + 0) 32) ⟨_, iX Q h⟩)))
  · intro Q h
    unfold wpY_sum
    exact ya_sp0 hs (br_t rfl ⟨_, iY Q h⟩)
theorem ps_next {s p : Nat} (hs : s < 2) (hp : p < 32) :
    ∃ r : Int32, (∀ Q : Int32 → Prop, Q r → wpX_nextMapped Q (f, m, w, c) (nI s) (nI p)) ∧
      (∀ Q : Int32 → Prop, Q r → wpY_nextMapped Q (f, m, w, c) (nI s) (nI p)) := by
  obtain ⟨r, iX, iY⟩ := ps_nxL (f := f) (m := m) (w := w) (c := c) hs (32 - p) p (by omega)
  refine ⟨r, ?_, ?_⟩
  · intro Q h
    unfold wpX_nextMapped
    exact xa_rp_0 hs hp (br_t rfl ⟨_, iX Q h⟩)
  · intro Q h
    unfold wpY_nextMapped
    exact ya_sp0 hs (br_t rfl (ya_pg0 hp (br_t rfl ⟨_, iY Q h⟩)))
end
